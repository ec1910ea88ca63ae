/-! ROWS: an instruction each, over the abstract heap (written by wip/whole/mkrows.py) -/
def aset (i : Nat) (v : AV) (L : List (Nat × AV)) : List (Nat × AV) := (i, v) :: L.filter (fun q => !(q.1 == i) && !(q.1 + 1 == i && isJ q.2))
def asetJ (i : Nat) (v : AV) (L : List (Nat × AV)) : List (Nat × AV) := (i, v) :: L.filter (fun q => !(q.1 == i) && (!(q.1 == i + 1) && !(q.1 + 1 == i && isJ q.2)))
def up_ {α : Type} (f : Nat → α) (k : Nat) (x : α) : Nat → α := fun j => if j = k then x else f j
theorem ne7 {a : Nat} (h : Nat.beq a 7 = false) : ¬ a = 7 := fun e => by rw [e] at h; cases h
theorem av_cat2 (v : AV) : ((av v).category == 2) = isJ v := by
  rcases v with x | x | o
  · rfl
  · rfl
  · cases o <;> rfl
theorem av_cat {v : AV} (h : isJ v = false) : (av v).category = 1 := by
  rcases v with x | x | o
  · rfl
  · cases h
  · cases o <;> rfl
theorem aset_map (i : Nat) (v : AV) (L : List (Nat × AV)) (_ : True = True) : (i, av v) :: (L.map fun q => (q.1, av q.2)).filter (fun q => !(q.1 == i) && !(q.1 + 1 == i && q.2.category == 2)) = (aset i v L).map fun q => (q.1, av q.2) := by
  unfold aset
  rw [List.map_cons, List.filter_map]
  refine congrArg (_ :: ·) (congrArg _ (List.filter_congr fun q _ => ?_))
  simp only [Function.comp_apply, av_cat2]
theorem asetJ_map (i : Nat) (v : AV) (L : List (Nat × AV)) : (i, av v) :: (L.map fun q => (q.1, av q.2)).filter (fun q => !(q.1 == i) && (!(q.1 == i + 1) && !(q.1 + 1 == i && q.2.category == 2))) = (asetJ i v L).map fun q => (q.1, av q.2) := by
  unfold asetJ
  rw [List.map_cons, List.filter_map]
  refine congrArg (_ :: ·) (congrArg _ (List.filter_congr fun q _ => ?_))
  simp only [Function.comp_apply, av_cat2]
theorem bi_0 {b : Bool} (h : bi b = 0) : b = false := by
  cases b with
  | false => rfl
  | true => exact absurd h (by decide)
theorem bi_n0 {b : Bool} (h : ¬ bi b = 0) : b = true := by
  cases b with
  | false => exact absurd rfl h
  | true => rfl
theorem narrow_bi (b : Bool) : narrow .boolean (.int (bi b)) = .int (bi b) := by cases b <;> rfl
def QI (K : Int32 → Hp → Prop) : Option AV → Hp → Prop := fun r σ => ∃ v, r = some (aI v) ∧ K v σ
def QZ (K : Bool → Hp → Prop) : Option AV → Hp → Prop := fun r σ => ∃ v, r = some (aI (bi v)) ∧ K v σ
def QJ (K : Int64 → Hp → Prop) : Option AV → Hp → Prop := fun r σ => ∃ v, r = some (aJ v) ∧ K v σ
def QR (K : Option Nat → Hp → Prop) : Option AV → Hp → Prop := fun r σ => ∃ v, r = some (aR v) ∧ K v σ
def QN (K : Nat → Hp → Prop) : Option AV → Hp → Prop := fun r σ => ∃ v, r = some (aR (some v)) ∧ K v σ
def QV (K : Hp → Prop) : Option AV → Hp → Prop := fun r σ => r = none ∧ K σ
def wz (v : AV) : Nat := bif isJ v then 2 else 1
theorem av_wz (v : AV) : (av v).category = wz v := by
  rcases v with x | x | o
  · rfl
  · rfl
  · cases o <;> rfl
theorem cat_ok {st : List AV} (h : (st.map wz).sum ≤ 8) : (st.map fun v => (av v).category).sum ≤ 8 := by
  rw [show (st.map fun v => (av v).category) = st.map wz from List.map_congr_left fun v _ => av_wz v]
  exact h
theorem lgl (as : List AV) : (lg_sl (as.map av)).length = (as.map wz).sum := by
  induction as with
  | nil => rfl
  | cons v t ih =>
    rw [List.map_cons, List.map_cons, List.sum_cons, ← ih]
    unfold lg_sl
    rw [List.flatMap_cons, List.length_append]
    congr 1
    rcases v with x | x | o
    · rfl
    · rfl
    · cases o <;> rfl
/-- what is told of a callee -/
def Cf (z : MethodName) (bytes : ByteArray) (mL : Nat) (rt : Option FieldType) (n : Nat) : Prop :=
  Cond.code z bytes mL rt ∈ gtbl ∧ Cond.initialized z.cls ∈ gtbl ∧ (z.cls ≠ "java/lang/invoke/MethodHandle" ∧ z.cls ≠ "java/lang/invoke/VarHandle") ∧ mL ≤ 21 ∧ (parseMethodDescriptor z.desc).map (fun d => d.parameters.length) = some n
theorem Cf.good {z : MethodName} {bytes : ByteArray} {mL : Nat} {rt : Option FieldType} {n : Nat} (cf : Cf z bytes mL rt n) : GoodIn (cx0 :: gtbl) (Cond.code z bytes mL rt :: gtbl) := by
  intro w hw
  rcases List.mem_cons.mp hw with rfl | hw
  · exact ⟨List.mem_cons_of_mem _ cf.1, gtbl_good cf.1⟩
  · exact ⟨List.mem_cons_of_mem _ hw, gtbl_good hw⟩
theorem Cf.len {z : MethodName} {bytes : ByteArray} {mL : Nat} {rt : Option FieldType} {n : Nat} (cf : Cf z bytes mL rt n) {sig} (h : parseMethodDescriptor z.desc = some sig) : n = sig.parameters.length := by
  have h2 := cf.2.2.2.2
  rw [h] at h2
  exact (Option.some.inj h2).symm
section RZ
variable {l : Launch} {G : GG} {d : Nat} {own : String} {yy : MethodName} {cc : ByteArray} {nL : Nat} {ret : Option FieldType} {pc : Nat} {L : List (Nat × AV)} {st : List AV} {σ : Hp} {bc bs : Nat} {Q : Option AV → Hp → Prop} {E : Xit}
theorem LDCWS {p : Program} {l : Launch} {e : Env} {R : Room} {s : State} {m : MethodId} {args : Array Value} {below : List Frame} {meth : Method} {c : Code} {H : Heap} {locs : List Loc} {cells slots : Nat} {Q : State → Prop} {cc : ByteArray} {pc : Nat} {ls : Array Slot} {rest : List Value} (hexec : p.tables.exec = Jvm.exec) (hb : c.code = cc) {own tx : String} {index q : Nat} (hown : s.vm.findClass own = some m.cls) (hZ : vk_R own index tx q s) (hdg : decode cc pc = .ok (.ldc_w index, 3))
    (k : W p l e R s m args below meth c H locs cells slots Q (F0 m (pc + 3) ls (.ref q :: rest))) : W p l e R s m args below meth c H locs cells slots Q (F0 m pc ls rest) := by
  intro T hT X
  obtain ⟨t, a1, b1⟩ := k T hT X
  refine ⟨t, ?_, b1⟩
  obtain ⟨k2, cf, i, a', hk, hcf, hcp, -, hr, hev'⟩ := Cond.stringRef_spec hown hZ.1
  cases hZ.2.symm.trans hev'
  obtain ⟨k', hk', he⟩ := X.warmed.alike.2.2 _ _ hk
  have hr' : k'.resolved[index]? = some (some (.string q)) := by
    rcases X.warmed.entry hk hk' index with h | ⟨h, -⟩
    · rw [h]; exact hr
    · rw [hr] at h; cases h
  jvm_step X.here [hexec, hb, hdg, ldc_w.wp_string (e := e) (s := T) (f := F0 m pc ls rest) X.here.top hk' (by rw [he]; exact hcf) hcp hr']
  exact a1
theorem r_iconst {n : Int} {v : Int32} (hv : Int32.ofInt n = v) (hd : decode cc pc = .ok (.iconst n, 1)) (k : Wd l G d own yy cc nL ret (pc + 1) L (aI v :: st) σ bc bs E) : Wd l G d own yy cc nL ret pc L st σ bc bs E := by
  intro p e R s m args below meth c ls H locs cells slots mc ms r1 r2 r3 r4 C hl hR hS h1 h2
  exact lv_iconst C.1 C.2.1 hd hv (k p e R s m args below meth c ls H locs cells slots mc ms r1 r2 r3 r4 C hl hR hS h1 h2)
theorem r_bipush {n : Int} {v : Int32} (hv : (Int8.ofInt n).toInt32 = v) (hd : decode cc pc = .ok (.bipush n, 2)) (k : Wd l G d own yy cc nL ret (pc + 2) L (aI v :: st) σ bc bs E) : Wd l G d own yy cc nL ret pc L st σ bc bs E := by
  intro p e R s m args below meth c ls H locs cells slots mc ms r1 r2 r3 r4 C hl hR hS h1 h2
  exact lv_bipush C.1 C.2.1 hd hv (k p e R s m args below meth c ls H locs cells slots mc ms r1 r2 r3 r4 C hl hR hS h1 h2)
theorem r_sipush {n : Int} {v : Int32} (hv : (Int16.ofInt n).toInt32 = v) (hd : decode cc pc = .ok (.sipush n, 3)) (k : Wd l G d own yy cc nL ret (pc + 3) L (aI v :: st) σ bc bs E) : Wd l G d own yy cc nL ret pc L st σ bc bs E := by
  intro p e R s m args below meth c ls H locs cells slots mc ms r1 r2 r3 r4 C hl hR hS h1 h2
  exact lv_sipush C.1 C.2.1 hd hv (k p e R s m args below meth c ls H locs cells slots mc ms r1 r2 r3 r4 C hl hR hS h1 h2)
theorem r_lconst {n : Fin 2} {v : Int64} (hv : Int64.ofNat (n : Nat) = v) (hd : decode cc pc = .ok (.lconst n, 1)) (k : Wd l G d own yy cc nL ret (pc + 1) L (aJ v :: st) σ bc bs E) : Wd l G d own yy cc nL ret pc L st σ bc bs E := by
  intro p e R s m args below meth c ls H locs cells slots mc ms r1 r2 r3 r4 C hl hR hS h1 h2
  exact lv_lconst C.1 C.2.1 hd hv (k p e R s m args below meth c ls H locs cells slots mc ms r1 r2 r3 r4 C hl hR hS h1 h2)
theorem r_null  (hd : decode cc pc = .ok (.aconst_null, 1)) (k : Wd l G d own yy cc nL ret (pc + 1) L (aR none :: st) σ bc bs E) : Wd l G d own yy cc nL ret pc L st σ bc bs E := by
  intro p e R s m args below meth c ls H locs cells slots mc ms r1 r2 r3 r4 C hl hR hS h1 h2
  exact lv_null C.1 C.2.1 hd (k p e R s m args below meth c ls H locs cells slots mc ms r1 r2 r3 r4 C hl hR hS h1 h2)
theorem r_ldc {i : Nat} {v : Int32} (hw : Cond.constant own i v ∈ gtbl) (hd : decode cc pc = .ok (.ldc i, 2)) (k : Wd l G d own yy cc nL ret (pc + 2) L (aI v :: st) σ bc bs E) : Wd l G d own yy cc nL ret pc L st σ bc bs E := by
  intro p e R s m args below meth c ls H locs cells slots mc ms r1 r2 r3 r4 C hl hR hS h1 h2
  exact lv_ldc C.1 C.2.1 C.2.2.2.1 (C.2.2.2.2.1 _ (List.mem_cons_of_mem _ hw)) hd (k p e R s m args below meth c ls H locs cells slots mc ms r1 r2 r3 r4 C hl hR hS h1 h2)
theorem r_ldcw {i : Nat} {v : Int32} (hw : Cond.constant own i v ∈ gtbl) (hd : decode cc pc = .ok (.ldc_w i, 3)) (k : Wd l G d own yy cc nL ret (pc + 3) L (aI v :: st) σ bc bs E) : Wd l G d own yy cc nL ret pc L st σ bc bs E := by
  intro p e R s m args below meth c ls H locs cells slots mc ms r1 r2 r3 r4 C hl hR hS h1 h2
  exact lv_ldcw C.1 C.2.1 C.2.2.2.1 (C.2.2.2.2.1 _ (List.mem_cons_of_mem _ hw)) hd (k p e R s m args below meth c ls H locs cells slots mc ms r1 r2 r3 r4 C hl hR hS h1 h2)
theorem r_ldc2 {i : Nat} {v : Int64} (hw : Cond.constantLong own i v ∈ gtbl) (hd : decode cc pc = .ok (.ldc2_w i, 3)) (k : Wd l G d own yy cc nL ret (pc + 3) L (aJ v :: st) σ bc bs E) : Wd l G d own yy cc nL ret pc L st σ bc bs E := by
  intro p e R s m args below meth c ls H locs cells slots mc ms r1 r2 r3 r4 C hl hR hS h1 h2
  exact lv_ldc2 C.1 C.2.1 C.2.2.2.1 (C.2.2.2.2.1 _ (List.mem_cons_of_mem _ hw)) hd (k p e R s m args below meth c ls H locs cells slots mc ms r1 r2 r3 r4 C hl hR hS h1 h2)
theorem r_ldcS {i j : Nat} {tx : String} {bs0 : List Nat} (hs : ssz[j]? = some (own, i, tx, bs0)) (hd : decode cc pc = .ok (.ldc i, 2)) (k : Wd l G d own yy cc nL ret (pc + 2) L (aR (some (gK G j)) :: st) σ bc bs E) : Wd l G d own yy cc nL ret pc L st σ bc bs E := by
  intro p e R s m args below meth c ls H locs cells slots mc ms r1 r2 r3 r4 C hl hR hS h1 h2
  exact va_ldcS C.1 C.2.1 C.2.2.2.1 (C.2.2.2.2.2.2.2.1.2.2.1 j _ hs).1 hd (k p e R s m args below meth c ls H locs cells slots mc ms r1 r2 r3 r4 C hl hR hS h1 h2)
theorem r_ldcwS {i j : Nat} {tx : String} {bs0 : List Nat} (hs : ssz[j]? = some (own, i, tx, bs0)) (hd : decode cc pc = .ok (.ldc_w i, 3)) (k : Wd l G d own yy cc nL ret (pc + 3) L (aR (some (gK G j)) :: st) σ bc bs E) : Wd l G d own yy cc nL ret pc L st σ bc bs E := by
  intro p e R s m args below meth c ls H locs cells slots mc ms r1 r2 r3 r4 C hl hR hS h1 h2
  exact LDCWS C.1 C.2.1 C.2.2.2.1 (C.2.2.2.2.2.2.2.1.2.2.1 j _ hs).1 hd (k p e R s m args below meth c ls H locs cells slots mc ms r1 r2 r3 r4 C hl hR hS h1 h2)
theorem r_ldcM {i : Nat} (hw : Cond.classLink own i "[Ljava/lang/Object;" ∈ gtbl) (hd : decode cc pc = .ok (.ldc i, 2)) (k : Wd l G d own yy cc nL ret (pc + 2) L (aR (some (gM G)) :: st) σ bc bs E) : Wd l G d own yy cc nL ret pc L st σ bc bs E := by
  intro p e R s m args below meth c ls H locs cells slots mc ms r1 r2 r3 r4 C hl hR hS h1 h2
  exact va_ldcM C.1 C.2.1 C.2.2.2.1 (C.2.2.2.2.1 _ (List.mem_cons_of_mem _ hw)) (C.2.2.2.2.2.2.2.1.2.2.2.2.2.2.1) hd (k p e R s m args below meth c ls H locs cells slots mc ms r1 r2 r3 r4 C hl hR hS h1 h2)
theorem r_iload_n {n : Fin 4} {i j : Nat} {v : Int32} (hk : L[j]? = some (i, aI v)) (hi : (n : Nat) = i) (hd : decode cc pc = .ok (.iload_n n, 1)) (k : Wd l G d own yy cc nL ret (pc + 1) L (aI v :: st) σ bc bs E) : Wd l G d own yy cc nL ret pc L st σ bc bs E := by
  intro p e R s m args below meth c ls H locs cells slots mc ms r1 r2 r3 r4 C hl hR hS h1 h2
  exact lv_iload_n C.1 C.2.1 hd hi (hl.2.2 (i, av _) (List.mem_map.mpr ⟨_, List.mem_of_getElem? hk, rfl⟩)) (k p e R s m args below meth c ls H locs cells slots mc ms r1 r2 r3 r4 C hl hR hS h1 h2)
theorem r_iload {i j : Nat} {v : Int32} (hk : L[j]? = some (i, aI v)) (hd : decode cc pc = .ok (.iload i, 2)) (k : Wd l G d own yy cc nL ret (pc + 2) L (aI v :: st) σ bc bs E) : Wd l G d own yy cc nL ret pc L st σ bc bs E := by
  intro p e R s m args below meth c ls H locs cells slots mc ms r1 r2 r3 r4 C hl hR hS h1 h2
  exact lv_iload C.1 C.2.1 hd (hl.2.2 (i, av _) (List.mem_map.mpr ⟨_, List.mem_of_getElem? hk, rfl⟩)) (k p e R s m args below meth c ls H locs cells slots mc ms r1 r2 r3 r4 C hl hR hS h1 h2)
theorem r_lload_n {n : Fin 4} {i j : Nat} {v : Int64} (hk : L[j]? = some (i, aJ v)) (hi : (n : Nat) = i) (hd : decode cc pc = .ok (.lload_n n, 1)) (k : Wd l G d own yy cc nL ret (pc + 1) L (aJ v :: st) σ bc bs E) : Wd l G d own yy cc nL ret pc L st σ bc bs E := by
  intro p e R s m args below meth c ls H locs cells slots mc ms r1 r2 r3 r4 C hl hR hS h1 h2
  exact lv_lload_n C.1 C.2.1 hd hi (hl.2.2 (i, av _) (List.mem_map.mpr ⟨_, List.mem_of_getElem? hk, rfl⟩)) (k p e R s m args below meth c ls H locs cells slots mc ms r1 r2 r3 r4 C hl hR hS h1 h2)
theorem r_lload {i j : Nat} {v : Int64} (hk : L[j]? = some (i, aJ v)) (hd : decode cc pc = .ok (.lload i, 2)) (k : Wd l G d own yy cc nL ret (pc + 2) L (aJ v :: st) σ bc bs E) : Wd l G d own yy cc nL ret pc L st σ bc bs E := by
  intro p e R s m args below meth c ls H locs cells slots mc ms r1 r2 r3 r4 C hl hR hS h1 h2
  exact lv_lload C.1 C.2.1 hd (hl.2.2 (i, av _) (List.mem_map.mpr ⟨_, List.mem_of_getElem? hk, rfl⟩)) (k p e R s m args below meth c ls H locs cells slots mc ms r1 r2 r3 r4 C hl hR hS h1 h2)
theorem r_aload_n {n : Fin 4} {i j : Nat} {o : Option Nat} (hk : L[j]? = some (i, aR o)) (hi : (n : Nat) = i) (hd : decode cc pc = .ok (.aload_n n, 1)) (k : Wd l G d own yy cc nL ret (pc + 1) L (aR o :: st) σ bc bs E) : Wd l G d own yy cc nL ret pc L st σ bc bs E := by
  intro p e R s m args below meth c ls H locs cells slots mc ms r1 r2 r3 r4 C hl hR hS h1 h2
  have g := (hl.2.2 (i, av _) (List.mem_map.mpr ⟨_, List.mem_of_getElem? hk, rfl⟩))
  cases o with
  | none => exact lv_aload_nN C.1 C.2.1 hd hi g (k p e R s m args below meth c ls H locs cells slots mc ms r1 r2 r3 r4 C hl hR hS h1 h2)
  | some a => exact lv_aload_n C.1 C.2.1 hd hi g (k p e R s m args below meth c ls H locs cells slots mc ms r1 r2 r3 r4 C hl hR hS h1 h2)
theorem r_aload {i j : Nat} {o : Option Nat} (hk : L[j]? = some (i, aR o)) (hd : decode cc pc = .ok (.aload i, 2)) (k : Wd l G d own yy cc nL ret (pc + 2) L (aR o :: st) σ bc bs E) : Wd l G d own yy cc nL ret pc L st σ bc bs E := by
  intro p e R s m args below meth c ls H locs cells slots mc ms r1 r2 r3 r4 C hl hR hS h1 h2
  have g := (hl.2.2 (i, av _) (List.mem_map.mpr ⟨_, List.mem_of_getElem? hk, rfl⟩))
  cases o with
  | none => exact lv_aloadN C.1 C.2.1 hd g (k p e R s m args below meth c ls H locs cells slots mc ms r1 r2 r3 r4 C hl hR hS h1 h2)
  | some a => exact lv_aload C.1 C.2.1 hd g (k p e R s m args below meth c ls H locs cells slots mc ms r1 r2 r3 r4 C hl hR hS h1 h2)
theorem r_istore_n {n : Fin 4} {i : Nat} {v : Int32} {L' : List (Nat × AV)} (hL : aset i (aI v) L = L') (hi : (n : Nat) = i) (hn : i < nL) (hd : decode cc pc = .ok (.istore_n n, 1)) (k : Wd l G d own yy cc nL ret (pc + 1) L' st σ bc bs E) : Wd l G d own yy cc nL ret pc L (aI v :: st) σ bc bs E := by
  intro p e R s m args below meth c ls H locs cells slots mc ms r1 r2 r3 r4 C hl hR hS h1 h2
  subst hL
  exact lv_istore_n C.1 C.2.1 hd hi hl hn (aset_map i (aI v) L rfl) (fun ls' hl' => k p e R s m args below meth c ls' H locs cells slots mc ms r1 r2 r3 r4 C hl' hR hS h1 h2)
theorem r_istore {i : Nat} {v : Int32} {L' : List (Nat × AV)} (hL : aset i (aI v) L = L') (hn : i < nL) (hd : decode cc pc = .ok (.istore i, 2)) (k : Wd l G d own yy cc nL ret (pc + 2) L' st σ bc bs E) : Wd l G d own yy cc nL ret pc L (aI v :: st) σ bc bs E := by
  intro p e R s m args below meth c ls H locs cells slots mc ms r1 r2 r3 r4 C hl hR hS h1 h2
  subst hL
  exact lv_istore C.1 C.2.1 hd hl hn (aset_map i (aI v) L rfl) (fun ls' hl' => k p e R s m args below meth c ls' H locs cells slots mc ms r1 r2 r3 r4 C hl' hR hS h1 h2)
theorem r_lstore_n {n : Fin 4} {i : Nat} {v : Int64} {L' : List (Nat × AV)} (hL : asetJ i (aJ v) L = L') (hi : (n : Nat) = i) (hn : i + 1 < nL) (hd : decode cc pc = .ok (.lstore_n n, 1)) (k : Wd l G d own yy cc nL ret (pc + 1) L' st σ bc bs E) : Wd l G d own yy cc nL ret pc L (aJ v :: st) σ bc bs E := by
  intro p e R s m args below meth c ls H locs cells slots mc ms r1 r2 r3 r4 C hl hR hS h1 h2
  subst hL
  exact lv_lstore_n C.1 C.2.1 hd hi hl hn (asetJ_map i (aJ v) L) (fun ls' hl' => k p e R s m args below meth c ls' H locs cells slots mc ms r1 r2 r3 r4 C hl' hR hS h1 h2)
theorem r_lstore {i : Nat} {v : Int64} {L' : List (Nat × AV)} (hL : asetJ i (aJ v) L = L') (hn : i + 1 < nL) (hd : decode cc pc = .ok (.lstore i, 2)) (k : Wd l G d own yy cc nL ret (pc + 2) L' st σ bc bs E) : Wd l G d own yy cc nL ret pc L (aJ v :: st) σ bc bs E := by
  intro p e R s m args below meth c ls H locs cells slots mc ms r1 r2 r3 r4 C hl hR hS h1 h2
  subst hL
  exact lv_lstore C.1 C.2.1 hd hl hn (asetJ_map i (aJ v) L) (fun ls' hl' => k p e R s m args below meth c ls' H locs cells slots mc ms r1 r2 r3 r4 C hl' hR hS h1 h2)
theorem r_astore_n {n : Fin 4} {i : Nat} {o : Option Nat} {L' : List (Nat × AV)} (hL : aset i (aR o) L = L') (hi : (n : Nat) = i) (hn : i < nL) (hd : decode cc pc = .ok (.astore_n n, 1)) (k : Wd l G d own yy cc nL ret (pc + 1) L' st σ bc bs E) : Wd l G d own yy cc nL ret pc L (aR o :: st) σ bc bs E := by
  intro p e R s m args below meth c ls H locs cells slots mc ms r1 r2 r3 r4 C hl hR hS h1 h2
  subst hL
  cases o with
  | none => exact lv_astore_nN C.1 C.2.1 hd hi hl hn (aset_map i (aR none) L rfl) (fun ls' hl' => k p e R s m args below meth c ls' H locs cells slots mc ms r1 r2 r3 r4 C hl' hR hS h1 h2)
  | some a => exact lv_astore_n C.1 C.2.1 hd hi hl hn (aset_map i (aR (some a)) L rfl) (fun ls' hl' => k p e R s m args below meth c ls' H locs cells slots mc ms r1 r2 r3 r4 C hl' hR hS h1 h2)
theorem r_astore {i : Nat} {o : Option Nat} {L' : List (Nat × AV)} (hL : aset i (aR o) L = L') (hn : i < nL) (hd : decode cc pc = .ok (.astore i, 2)) (k : Wd l G d own yy cc nL ret (pc + 2) L' st σ bc bs E) : Wd l G d own yy cc nL ret pc L (aR o :: st) σ bc bs E := by
  intro p e R s m args below meth c ls H locs cells slots mc ms r1 r2 r3 r4 C hl hR hS h1 h2
  subst hL
  cases o with
  | none => exact lv_astoreN C.1 C.2.1 hd hl hn (aset_map i (aR none) L rfl) (fun ls' hl' => k p e R s m args below meth c ls' H locs cells slots mc ms r1 r2 r3 r4 C hl' hR hS h1 h2)
  | some a => exact lv_astore C.1 C.2.1 hd hl hn (aset_map i (aR (some a)) L rfl) (fun ls' hl' => k p e R s m args below meth c ls' H locs cells slots mc ms r1 r2 r3 r4 C hl' hR hS h1 h2)
theorem r_iinc {i j : Nat} {n : Int} {v w : Int32} {L' : List (Nat × AV)} (hk : L[j]? = some (i, aI v)) (hv : v + Int32.ofInt n = w) (hL : aset i (aI w) L = L') (hn : i < nL) (hd : decode cc pc = .ok (.iinc i n, 3)) (k : Wd l G d own yy cc nL ret (pc + 3) L' st σ bc bs E) : Wd l G d own yy cc nL ret pc L st σ bc bs E := by
  intro p e R s m args below meth c ls H locs cells slots mc ms r1 r2 r3 r4 C hl hR hS h1 h2
  subst hL
  exact lv_iinc C.1 C.2.1 hd hl (k := j) (by rw [List.getElem?_map, hk]; rfl) hv hn (aset_map i (aI w) L rfl) (fun ls' hl' => k p e R s m args below meth c ls' H locs cells slots mc ms r1 r2 r3 r4 C hl' hR hS h1 h2)
theorem r_sub (ks : List Nat) {L' : List (Nat × AV)} (hL : ks.filterMap (fun k => L[k]?) = L') (k : Wd l G d own yy cc nL ret pc L' st σ bc bs E) : Wd l G d own yy cc nL ret pc L st σ bc bs E := by
  intro p e R s m args below meth c ls H locs cells slots mc ms r1 r2 r3 r4 C hl hR hS h1 h2
  refine k p e R s m args below meth c ls H locs cells slots mc ms r1 r2 r3 r4 C ⟨hl.1, hl.2.1, fun q hq => hl.2.2 q ?_⟩ hR hS h1 h2
  obtain ⟨x, hx, rfl⟩ := List.mem_map.mp hq
  rw [← hL] at hx
  obtain ⟨j, -, hj⟩ := List.mem_filterMap.mp hx
  exact List.mem_map.mpr ⟨x, List.mem_of_getElem? hj, rfl⟩
theorem r_iadd {x y : Int32}  (hd : decode cc pc = .ok (.iadd, 1)) (k : Wd l G d own yy cc nL ret (pc + 1) L (aI (x + y) :: st) σ bc bs E) : Wd l G d own yy cc nL ret pc L (aI y :: aI x :: st) σ bc bs E := by
  intro p e R s m args below meth c ls H locs cells slots mc ms r1 r2 r3 r4 C hl hR hS h1 h2
  exact lv_iadd C.1 C.2.1 hd (k p e R s m args below meth c ls H locs cells slots mc ms r1 r2 r3 r4 C hl hR hS h1 h2)
theorem r_isub {x y : Int32}  (hd : decode cc pc = .ok (.isub, 1)) (k : Wd l G d own yy cc nL ret (pc + 1) L (aI (x - y) :: st) σ bc bs E) : Wd l G d own yy cc nL ret pc L (aI y :: aI x :: st) σ bc bs E := by
  intro p e R s m args below meth c ls H locs cells slots mc ms r1 r2 r3 r4 C hl hR hS h1 h2
  exact lv_isub C.1 C.2.1 hd (k p e R s m args below meth c ls H locs cells slots mc ms r1 r2 r3 r4 C hl hR hS h1 h2)
theorem r_imul {x y : Int32}  (hd : decode cc pc = .ok (.imul, 1)) (k : Wd l G d own yy cc nL ret (pc + 1) L (aI (x * y) :: st) σ bc bs E) : Wd l G d own yy cc nL ret pc L (aI y :: aI x :: st) σ bc bs E := by
  intro p e R s m args below meth c ls H locs cells slots mc ms r1 r2 r3 r4 C hl hR hS h1 h2
  exact lv_imul C.1 C.2.1 hd (k p e R s m args below meth c ls H locs cells slots mc ms r1 r2 r3 r4 C hl hR hS h1 h2)
theorem r_iand {x y : Int32}  (hd : decode cc pc = .ok (.iand, 1)) (k : Wd l G d own yy cc nL ret (pc + 1) L (aI (x &&& y) :: st) σ bc bs E) : Wd l G d own yy cc nL ret pc L (aI y :: aI x :: st) σ bc bs E := by
  intro p e R s m args below meth c ls H locs cells slots mc ms r1 r2 r3 r4 C hl hR hS h1 h2
  exact lv_iand C.1 C.2.1 hd (k p e R s m args below meth c ls H locs cells slots mc ms r1 r2 r3 r4 C hl hR hS h1 h2)
theorem r_ior {x y : Int32}  (hd : decode cc pc = .ok (.ior, 1)) (k : Wd l G d own yy cc nL ret (pc + 1) L (aI (x ||| y) :: st) σ bc bs E) : Wd l G d own yy cc nL ret pc L (aI y :: aI x :: st) σ bc bs E := by
  intro p e R s m args below meth c ls H locs cells slots mc ms r1 r2 r3 r4 C hl hR hS h1 h2
  exact lv_ior C.1 C.2.1 hd (k p e R s m args below meth c ls H locs cells slots mc ms r1 r2 r3 r4 C hl hR hS h1 h2)
theorem r_ixor {x y : Int32}  (hd : decode cc pc = .ok (.ixor, 1)) (k : Wd l G d own yy cc nL ret (pc + 1) L (aI (x ^^^ y) :: st) σ bc bs E) : Wd l G d own yy cc nL ret pc L (aI y :: aI x :: st) σ bc bs E := by
  intro p e R s m args below meth c ls H locs cells slots mc ms r1 r2 r3 r4 C hl hR hS h1 h2
  exact lv_ixor C.1 C.2.1 hd (k p e R s m args below meth c ls H locs cells slots mc ms r1 r2 r3 r4 C hl hR hS h1 h2)
theorem r_idiv {x y : Int32} (hne : ¬ y = 0) (hd : decode cc pc = .ok (.idiv, 1)) (k : Wd l G d own yy cc nL ret (pc + 1) L (aI (x / y) :: st) σ bc bs E) : Wd l G d own yy cc nL ret pc L (aI y :: aI x :: st) σ bc bs E := by
  intro p e R s m args below meth c ls H locs cells slots mc ms r1 r2 r3 r4 C hl hR hS h1 h2
  exact lv_idiv C.1 C.2.1 hd hne (k p e R s m args below meth c ls H locs cells slots mc ms r1 r2 r3 r4 C hl hR hS h1 h2)
theorem r_irem {x y : Int32} (hne : ¬ y = 0) (hd : decode cc pc = .ok (.irem, 1)) (k : Wd l G d own yy cc nL ret (pc + 1) L (aI (x - x / y * y) :: st) σ bc bs E) : Wd l G d own yy cc nL ret pc L (aI y :: aI x :: st) σ bc bs E := by
  intro p e R s m args below meth c ls H locs cells slots mc ms r1 r2 r3 r4 C hl hR hS h1 h2
  exact lv_irem C.1 C.2.1 hd hne (k p e R s m args below meth c ls H locs cells slots mc ms r1 r2 r3 r4 C hl hR hS h1 h2)
theorem r_ishl {x y : Int32}  (hd : decode cc pc = .ok (.ishl, 1)) (k : Wd l G d own yy cc nL ret (pc + 1) L (aI (x <<< (y &&& 31)) :: st) σ bc bs E) : Wd l G d own yy cc nL ret pc L (aI y :: aI x :: st) σ bc bs E := by
  intro p e R s m args below meth c ls H locs cells slots mc ms r1 r2 r3 r4 C hl hR hS h1 h2
  exact lv_ishl C.1 C.2.1 hd (k p e R s m args below meth c ls H locs cells slots mc ms r1 r2 r3 r4 C hl hR hS h1 h2)
theorem r_ishr {x y : Int32}  (hd : decode cc pc = .ok (.ishr, 1)) (k : Wd l G d own yy cc nL ret (pc + 1) L (aI (x >>> (y &&& 31)) :: st) σ bc bs E) : Wd l G d own yy cc nL ret pc L (aI y :: aI x :: st) σ bc bs E := by
  intro p e R s m args below meth c ls H locs cells slots mc ms r1 r2 r3 r4 C hl hR hS h1 h2
  exact lv_ishr C.1 C.2.1 hd (k p e R s m args below meth c ls H locs cells slots mc ms r1 r2 r3 r4 C hl hR hS h1 h2)
theorem r_iushr {x y : Int32} (hd : decode cc pc = .ok (.iushr, 1)) (k : Wd l G d own yy cc nL ret (pc + 1) L (aI (x.toUInt32 >>> (y.toUInt32 &&& Int32.toUInt32 31)).toInt32 :: st) σ bc bs E) : Wd l G d own yy cc nL ret pc L (aI y :: aI x :: st) σ bc bs E := by
  intro p e R s m args below meth c ls H locs cells slots mc ms r1 r2 r3 r4 C hl hR hS h1 h2
  exact lv_iushr C.1 C.2.1 hd rfl (k p e R s m args below meth c ls H locs cells slots mc ms r1 r2 r3 r4 C hl hR hS h1 h2)
theorem r_ineg {x : Int32} (hd : decode cc pc = .ok (.ineg, 1)) (k : Wd l G d own yy cc nL ret (pc + 1) L (aI (-x) :: st) σ bc bs E) : Wd l G d own yy cc nL ret pc L (aI x :: st) σ bc bs E := by
  intro p e R s m args below meth c ls H locs cells slots mc ms r1 r2 r3 r4 C hl hR hS h1 h2
  exact lv_ineg C.1 C.2.1 hd (k p e R s m args below meth c ls H locs cells slots mc ms r1 r2 r3 r4 C hl hR hS h1 h2)
theorem r_ladd {x y : Int64}  (hd : decode cc pc = .ok (.ladd, 1)) (k : Wd l G d own yy cc nL ret (pc + 1) L (aJ (x + y) :: st) σ bc bs E) : Wd l G d own yy cc nL ret pc L (aJ y :: aJ x :: st) σ bc bs E := by
  intro p e R s m args below meth c ls H locs cells slots mc ms r1 r2 r3 r4 C hl hR hS h1 h2
  exact lv_ladd C.1 C.2.1 hd (k p e R s m args below meth c ls H locs cells slots mc ms r1 r2 r3 r4 C hl hR hS h1 h2)
theorem r_lsub {x y : Int64}  (hd : decode cc pc = .ok (.lsub, 1)) (k : Wd l G d own yy cc nL ret (pc + 1) L (aJ (x - y) :: st) σ bc bs E) : Wd l G d own yy cc nL ret pc L (aJ y :: aJ x :: st) σ bc bs E := by
  intro p e R s m args below meth c ls H locs cells slots mc ms r1 r2 r3 r4 C hl hR hS h1 h2
  exact lv_lsub C.1 C.2.1 hd (k p e R s m args below meth c ls H locs cells slots mc ms r1 r2 r3 r4 C hl hR hS h1 h2)
theorem r_lmul {x y : Int64}  (hd : decode cc pc = .ok (.lmul, 1)) (k : Wd l G d own yy cc nL ret (pc + 1) L (aJ (x * y) :: st) σ bc bs E) : Wd l G d own yy cc nL ret pc L (aJ y :: aJ x :: st) σ bc bs E := by
  intro p e R s m args below meth c ls H locs cells slots mc ms r1 r2 r3 r4 C hl hR hS h1 h2
  exact lv_lmul C.1 C.2.1 hd (k p e R s m args below meth c ls H locs cells slots mc ms r1 r2 r3 r4 C hl hR hS h1 h2)
theorem r_land {x y : Int64}  (hd : decode cc pc = .ok (.land, 1)) (k : Wd l G d own yy cc nL ret (pc + 1) L (aJ (x &&& y) :: st) σ bc bs E) : Wd l G d own yy cc nL ret pc L (aJ y :: aJ x :: st) σ bc bs E := by
  intro p e R s m args below meth c ls H locs cells slots mc ms r1 r2 r3 r4 C hl hR hS h1 h2
  exact lv_land C.1 C.2.1 hd (k p e R s m args below meth c ls H locs cells slots mc ms r1 r2 r3 r4 C hl hR hS h1 h2)
theorem r_lor {x y : Int64}  (hd : decode cc pc = .ok (.lor, 1)) (k : Wd l G d own yy cc nL ret (pc + 1) L (aJ (x ||| y) :: st) σ bc bs E) : Wd l G d own yy cc nL ret pc L (aJ y :: aJ x :: st) σ bc bs E := by
  intro p e R s m args below meth c ls H locs cells slots mc ms r1 r2 r3 r4 C hl hR hS h1 h2
  exact lv_lor C.1 C.2.1 hd (k p e R s m args below meth c ls H locs cells slots mc ms r1 r2 r3 r4 C hl hR hS h1 h2)
theorem r_ldiv {x y : Int64} (hne : ¬ y = 0) (hd : decode cc pc = .ok (.ldiv, 1)) (k : Wd l G d own yy cc nL ret (pc + 1) L (aJ (x / y) :: st) σ bc bs E) : Wd l G d own yy cc nL ret pc L (aJ y :: aJ x :: st) σ bc bs E := by
  intro p e R s m args below meth c ls H locs cells slots mc ms r1 r2 r3 r4 C hl hR hS h1 h2
  exact lv_ldiv C.1 C.2.1 hd hne (k p e R s m args below meth c ls H locs cells slots mc ms r1 r2 r3 r4 C hl hR hS h1 h2)
theorem r_lshl {x : Int64} {y : Int32} (hd : decode cc pc = .ok (.lshl, 1)) (k : Wd l G d own yy cc nL ret (pc + 1) L (aJ (x <<< (y.toInt64 &&& 63)) :: st) σ bc bs E) : Wd l G d own yy cc nL ret pc L (aI y :: aJ x :: st) σ bc bs E := by
  intro p e R s m args below meth c ls H locs cells slots mc ms r1 r2 r3 r4 C hl hR hS h1 h2
  exact lv_lshl C.1 C.2.1 hd rfl (k p e R s m args below meth c ls H locs cells slots mc ms r1 r2 r3 r4 C hl hR hS h1 h2)
theorem r_lshr {x : Int64} {y : Int32} (hd : decode cc pc = .ok (.lshr, 1)) (k : Wd l G d own yy cc nL ret (pc + 1) L (aJ (x >>> (y.toInt64 &&& 63)) :: st) σ bc bs E) : Wd l G d own yy cc nL ret pc L (aI y :: aJ x :: st) σ bc bs E := by
  intro p e R s m args below meth c ls H locs cells slots mc ms r1 r2 r3 r4 C hl hR hS h1 h2
  exact lv_lshr C.1 C.2.1 hd rfl (k p e R s m args below meth c ls H locs cells slots mc ms r1 r2 r3 r4 C hl hR hS h1 h2)
theorem r_i2l {x : Int32} (hd : decode cc pc = .ok (.i2l, 1)) (k : Wd l G d own yy cc nL ret (pc + 1) L (aJ x.toInt64 :: st) σ bc bs E) : Wd l G d own yy cc nL ret pc L (aI x :: st) σ bc bs E := by
  intro p e R s m args below meth c ls H locs cells slots mc ms r1 r2 r3 r4 C hl hR hS h1 h2
  exact lv_i2l C.1 C.2.1 hd rfl (k p e R s m args below meth c ls H locs cells slots mc ms r1 r2 r3 r4 C hl hR hS h1 h2)
theorem r_l2i {x : Int64} (hd : decode cc pc = .ok (.l2i, 1)) (k : Wd l G d own yy cc nL ret (pc + 1) L (aI x.toInt32 :: st) σ bc bs E) : Wd l G d own yy cc nL ret pc L (aJ x :: st) σ bc bs E := by
  intro p e R s m args below meth c ls H locs cells slots mc ms r1 r2 r3 r4 C hl hR hS h1 h2
  exact lv_l2i C.1 C.2.1 hd rfl (k p e R s m args below meth c ls H locs cells slots mc ms r1 r2 r3 r4 C hl hR hS h1 h2)
theorem r_lcmp {x y : Int64} (hd : decode cc pc = .ok (.lcmp, 1)) (k : Wd l G d own yy cc nL ret (pc + 1) L (aI (lg_cmp x y) :: st) σ bc bs E) : Wd l G d own yy cc nL ret pc L (aJ y :: aJ x :: st) σ bc bs E := by
  intro p e R s m args below meth c ls H locs cells slots mc ms r1 r2 r3 r4 C hl hR hS h1 h2
  exact W.lcmp C.1 C.2.1 hd (k p e R s m args below meth c ls H locs cells slots mc ms r1 r2 r3 r4 C hl hR hS h1 h2)
theorem r_dup {v : AV} (hv : isJ v = false) (hd : decode cc pc = .ok (.dup, 1)) (k : Wd l G d own yy cc nL ret (pc + 1) L (v :: v :: st) σ bc bs E) : Wd l G d own yy cc nL ret pc L (v :: st) σ bc bs E := by
  intro p e R s m args below meth c ls H locs cells slots mc ms r1 r2 r3 r4 C hl hR hS h1 h2
  exact lv_dup C.1 C.2.1 hd (av_cat hv) (k p e R s m args below meth c ls H locs cells slots mc ms r1 r2 r3 r4 C hl hR hS h1 h2)
theorem r_pop {v : AV} (hv : isJ v = false) (hd : decode cc pc = .ok (.pop, 1)) (k : Wd l G d own yy cc nL ret (pc + 1) L st σ bc bs E) : Wd l G d own yy cc nL ret pc L (v :: st) σ bc bs E := by
  intro p e R s m args below meth c ls H locs cells slots mc ms r1 r2 r3 r4 C hl hR hS h1 h2
  exact lv_pop C.1 C.2.1 hd (av_cat hv) (k p e R s m args below meth c ls H locs cells slots mc ms r1 r2 r3 r4 C hl hR hS h1 h2)
theorem r_dup2 {v w : AV} (hv : isJ v = false) (hw : isJ w = false) (hd : decode cc pc = .ok (.dup2, 1)) (k : Wd l G d own yy cc nL ret (pc + 1) L (v :: w :: v :: w :: st) σ bc bs E) : Wd l G d own yy cc nL ret pc L (v :: w :: st) σ bc bs E := by
  intro p e R s m args below meth c ls H locs cells slots mc ms r1 r2 r3 r4 C hl hR hS h1 h2
  exact lv_dup2_11 C.1 C.2.1 hd (av_cat hv) (av_cat hw) (k p e R s m args below meth c ls H locs cells slots mc ms r1 r2 r3 r4 C hl hR hS h1 h2)
theorem r_dup2J {x : Int64} (hd : decode cc pc = .ok (.dup2, 1)) (k : Wd l G d own yy cc nL ret (pc + 1) L (aJ x :: aJ x :: st) σ bc bs E) : Wd l G d own yy cc nL ret pc L (aJ x :: st) σ bc bs E := by
  intro p e R s m args below meth c ls H locs cells slots mc ms r1 r2 r3 r4 C hl hR hS h1 h2
  exact lv_dup2_2 C.1 C.2.1 hd rfl (k p e R s m args below meth c ls H locs cells slots mc ms r1 r2 r3 r4 C hl hR hS h1 h2)
theorem r_dup_x1 {v w : AV} (hv : isJ v = false) (hw : isJ w = false) (hd : decode cc pc = .ok (.dup_x1, 1)) (k : Wd l G d own yy cc nL ret (pc + 1) L (v :: w :: v :: st) σ bc bs E) : Wd l G d own yy cc nL ret pc L (v :: w :: st) σ bc bs E := by
  intro p e R s m args below meth c ls H locs cells slots mc ms r1 r2 r3 r4 C hl hR hS h1 h2
  exact lv_dup_x1 C.1 C.2.1 hd (av_cat hv) (av_cat hw) (k p e R s m args below meth c ls H locs cells slots mc ms r1 r2 r3 r4 C hl hR hS h1 h2)
theorem r_ifeq {x : Int32} {off : Int} {tgt : Nat} (ht : (pc : Int) + off = (tgt : Int)) (hd : decode cc pc = .ok (.ifCond .eq off, 3)) (kt : x = 0 → Wd l G d own yy cc nL ret tgt L st σ bc bs E) (kf : ¬ x = 0 → Wd l G d own yy cc nL ret (pc + 3) L st σ bc bs E) : Wd l G d own yy cc nL ret pc L (aI x :: st) σ bc bs E := by
  intro p e R s m args below meth c ls H locs cells slots mc ms r1 r2 r3 r4 C hl hR hS h1 h2
  exact lv_if_eq C.1 C.2.1 hd ht (fun q => kt q p e R s m args below meth c ls H locs cells slots mc ms r1 r2 r3 r4 C hl hR hS h1 h2) (fun q => kf q p e R s m args below meth c ls H locs cells slots mc ms r1 r2 r3 r4 C hl hR hS h1 h2)
theorem r_icmpeq {x y : Int32} {off : Int} {tgt : Nat} (ht : (pc : Int) + off = (tgt : Int)) (hd : decode cc pc = .ok (.if_icmp .eq off, 3)) (kt : x = y → Wd l G d own yy cc nL ret tgt L st σ bc bs E) (kf : ¬ x = y → Wd l G d own yy cc nL ret (pc + 3) L st σ bc bs E) : Wd l G d own yy cc nL ret pc L (aI y :: aI x :: st) σ bc bs E := by
  intro p e R s m args below meth c ls H locs cells slots mc ms r1 r2 r3 r4 C hl hR hS h1 h2
  exact lv_icmp_eq C.1 C.2.1 hd ht (fun q => kt q p e R s m args below meth c ls H locs cells slots mc ms r1 r2 r3 r4 C hl hR hS h1 h2) (fun q => kf q p e R s m args below meth c ls H locs cells slots mc ms r1 r2 r3 r4 C hl hR hS h1 h2)
theorem r_ifne {x : Int32} {off : Int} {tgt : Nat} (ht : (pc : Int) + off = (tgt : Int)) (hd : decode cc pc = .ok (.ifCond .ne off, 3)) (kt : ¬ x = 0 → Wd l G d own yy cc nL ret tgt L st σ bc bs E) (kf : x = 0 → Wd l G d own yy cc nL ret (pc + 3) L st σ bc bs E) : Wd l G d own yy cc nL ret pc L (aI x :: st) σ bc bs E := by
  intro p e R s m args below meth c ls H locs cells slots mc ms r1 r2 r3 r4 C hl hR hS h1 h2
  exact lv_if_ne C.1 C.2.1 hd ht (fun q => kt q p e R s m args below meth c ls H locs cells slots mc ms r1 r2 r3 r4 C hl hR hS h1 h2) (fun q => kf q p e R s m args below meth c ls H locs cells slots mc ms r1 r2 r3 r4 C hl hR hS h1 h2)
theorem r_icmpne {x y : Int32} {off : Int} {tgt : Nat} (ht : (pc : Int) + off = (tgt : Int)) (hd : decode cc pc = .ok (.if_icmp .ne off, 3)) (kt : ¬ x = y → Wd l G d own yy cc nL ret tgt L st σ bc bs E) (kf : x = y → Wd l G d own yy cc nL ret (pc + 3) L st σ bc bs E) : Wd l G d own yy cc nL ret pc L (aI y :: aI x :: st) σ bc bs E := by
  intro p e R s m args below meth c ls H locs cells slots mc ms r1 r2 r3 r4 C hl hR hS h1 h2
  exact lv_icmp_ne C.1 C.2.1 hd ht (fun q => kt q p e R s m args below meth c ls H locs cells slots mc ms r1 r2 r3 r4 C hl hR hS h1 h2) (fun q => kf q p e R s m args below meth c ls H locs cells slots mc ms r1 r2 r3 r4 C hl hR hS h1 h2)
theorem r_iflt {x : Int32} {off : Int} {tgt : Nat} (ht : (pc : Int) + off = (tgt : Int)) (hd : decode cc pc = .ok (.ifCond .lt off, 3)) (kt : x < 0 → Wd l G d own yy cc nL ret tgt L st σ bc bs E) (kf : ¬ x < 0 → Wd l G d own yy cc nL ret (pc + 3) L st σ bc bs E) : Wd l G d own yy cc nL ret pc L (aI x :: st) σ bc bs E := by
  intro p e R s m args below meth c ls H locs cells slots mc ms r1 r2 r3 r4 C hl hR hS h1 h2
  exact lv_if_lt C.1 C.2.1 hd ht (fun q => kt q p e R s m args below meth c ls H locs cells slots mc ms r1 r2 r3 r4 C hl hR hS h1 h2) (fun q => kf q p e R s m args below meth c ls H locs cells slots mc ms r1 r2 r3 r4 C hl hR hS h1 h2)
theorem r_icmplt {x y : Int32} {off : Int} {tgt : Nat} (ht : (pc : Int) + off = (tgt : Int)) (hd : decode cc pc = .ok (.if_icmp .lt off, 3)) (kt : x < y → Wd l G d own yy cc nL ret tgt L st σ bc bs E) (kf : ¬ x < y → Wd l G d own yy cc nL ret (pc + 3) L st σ bc bs E) : Wd l G d own yy cc nL ret pc L (aI y :: aI x :: st) σ bc bs E := by
  intro p e R s m args below meth c ls H locs cells slots mc ms r1 r2 r3 r4 C hl hR hS h1 h2
  exact lv_icmp_lt C.1 C.2.1 hd ht (fun q => kt q p e R s m args below meth c ls H locs cells slots mc ms r1 r2 r3 r4 C hl hR hS h1 h2) (fun q => kf q p e R s m args below meth c ls H locs cells slots mc ms r1 r2 r3 r4 C hl hR hS h1 h2)
theorem r_ifge {x : Int32} {off : Int} {tgt : Nat} (ht : (pc : Int) + off = (tgt : Int)) (hd : decode cc pc = .ok (.ifCond .ge off, 3)) (kt : 0 ≤ x → Wd l G d own yy cc nL ret tgt L st σ bc bs E) (kf : ¬ 0 ≤ x → Wd l G d own yy cc nL ret (pc + 3) L st σ bc bs E) : Wd l G d own yy cc nL ret pc L (aI x :: st) σ bc bs E := by
  intro p e R s m args below meth c ls H locs cells slots mc ms r1 r2 r3 r4 C hl hR hS h1 h2
  exact lv_if_ge C.1 C.2.1 hd ht (fun q => kt q p e R s m args below meth c ls H locs cells slots mc ms r1 r2 r3 r4 C hl hR hS h1 h2) (fun q => kf q p e R s m args below meth c ls H locs cells slots mc ms r1 r2 r3 r4 C hl hR hS h1 h2)
theorem r_icmpge {x y : Int32} {off : Int} {tgt : Nat} (ht : (pc : Int) + off = (tgt : Int)) (hd : decode cc pc = .ok (.if_icmp .ge off, 3)) (kt : y ≤ x → Wd l G d own yy cc nL ret tgt L st σ bc bs E) (kf : ¬ y ≤ x → Wd l G d own yy cc nL ret (pc + 3) L st σ bc bs E) : Wd l G d own yy cc nL ret pc L (aI y :: aI x :: st) σ bc bs E := by
  intro p e R s m args below meth c ls H locs cells slots mc ms r1 r2 r3 r4 C hl hR hS h1 h2
  exact lv_icmp_ge C.1 C.2.1 hd ht (fun q => kt q p e R s m args below meth c ls H locs cells slots mc ms r1 r2 r3 r4 C hl hR hS h1 h2) (fun q => kf q p e R s m args below meth c ls H locs cells slots mc ms r1 r2 r3 r4 C hl hR hS h1 h2)
theorem r_ifgt {x : Int32} {off : Int} {tgt : Nat} (ht : (pc : Int) + off = (tgt : Int)) (hd : decode cc pc = .ok (.ifCond .gt off, 3)) (kt : 0 < x → Wd l G d own yy cc nL ret tgt L st σ bc bs E) (kf : ¬ 0 < x → Wd l G d own yy cc nL ret (pc + 3) L st σ bc bs E) : Wd l G d own yy cc nL ret pc L (aI x :: st) σ bc bs E := by
  intro p e R s m args below meth c ls H locs cells slots mc ms r1 r2 r3 r4 C hl hR hS h1 h2
  exact lv_if_gt C.1 C.2.1 hd ht (fun q => kt q p e R s m args below meth c ls H locs cells slots mc ms r1 r2 r3 r4 C hl hR hS h1 h2) (fun q => kf q p e R s m args below meth c ls H locs cells slots mc ms r1 r2 r3 r4 C hl hR hS h1 h2)
theorem r_icmpgt {x y : Int32} {off : Int} {tgt : Nat} (ht : (pc : Int) + off = (tgt : Int)) (hd : decode cc pc = .ok (.if_icmp .gt off, 3)) (kt : y < x → Wd l G d own yy cc nL ret tgt L st σ bc bs E) (kf : ¬ y < x → Wd l G d own yy cc nL ret (pc + 3) L st σ bc bs E) : Wd l G d own yy cc nL ret pc L (aI y :: aI x :: st) σ bc bs E := by
  intro p e R s m args below meth c ls H locs cells slots mc ms r1 r2 r3 r4 C hl hR hS h1 h2
  exact lv_icmp_gt C.1 C.2.1 hd ht (fun q => kt q p e R s m args below meth c ls H locs cells slots mc ms r1 r2 r3 r4 C hl hR hS h1 h2) (fun q => kf q p e R s m args below meth c ls H locs cells slots mc ms r1 r2 r3 r4 C hl hR hS h1 h2)
theorem r_ifle {x : Int32} {off : Int} {tgt : Nat} (ht : (pc : Int) + off = (tgt : Int)) (hd : decode cc pc = .ok (.ifCond .le off, 3)) (kt : x ≤ 0 → Wd l G d own yy cc nL ret tgt L st σ bc bs E) (kf : ¬ x ≤ 0 → Wd l G d own yy cc nL ret (pc + 3) L st σ bc bs E) : Wd l G d own yy cc nL ret pc L (aI x :: st) σ bc bs E := by
  intro p e R s m args below meth c ls H locs cells slots mc ms r1 r2 r3 r4 C hl hR hS h1 h2
  exact lv_if_le C.1 C.2.1 hd ht (fun q => kt q p e R s m args below meth c ls H locs cells slots mc ms r1 r2 r3 r4 C hl hR hS h1 h2) (fun q => kf q p e R s m args below meth c ls H locs cells slots mc ms r1 r2 r3 r4 C hl hR hS h1 h2)
theorem r_icmple {x y : Int32} {off : Int} {tgt : Nat} (ht : (pc : Int) + off = (tgt : Int)) (hd : decode cc pc = .ok (.if_icmp .le off, 3)) (kt : x ≤ y → Wd l G d own yy cc nL ret tgt L st σ bc bs E) (kf : ¬ x ≤ y → Wd l G d own yy cc nL ret (pc + 3) L st σ bc bs E) : Wd l G d own yy cc nL ret pc L (aI y :: aI x :: st) σ bc bs E := by
  intro p e R s m args below meth c ls H locs cells slots mc ms r1 r2 r3 r4 C hl hR hS h1 h2
  exact lv_icmp_le C.1 C.2.1 hd ht (fun q => kt q p e R s m args below meth c ls H locs cells slots mc ms r1 r2 r3 r4 C hl hR hS h1 h2) (fun q => kf q p e R s m args below meth c ls H locs cells slots mc ms r1 r2 r3 r4 C hl hR hS h1 h2)
theorem r_ifeqZ {b : Bool} {off : Int} {tgt : Nat} (ht : (pc : Int) + off = (tgt : Int)) (hd : decode cc pc = .ok (.ifCond .eq off, 3)) (kt : b = false → Wd l G d own yy cc nL ret tgt L st σ bc bs E) (kf : b = true → Wd l G d own yy cc nL ret (pc + 3) L st σ bc bs E) : Wd l G d own yy cc nL ret pc L (aI (bi b) :: st) σ bc bs E := by
  intro p e R s m args below meth c ls H locs cells slots mc ms r1 r2 r3 r4 C hl hR hS h1 h2
  exact lv_if_eq C.1 C.2.1 hd ht (fun q => kt (bi_0 q) p e R s m args below meth c ls H locs cells slots mc ms r1 r2 r3 r4 C hl hR hS h1 h2) (fun q => kf (bi_n0 q) p e R s m args below meth c ls H locs cells slots mc ms r1 r2 r3 r4 C hl hR hS h1 h2)
theorem r_ifneZ {b : Bool} {off : Int} {tgt : Nat} (ht : (pc : Int) + off = (tgt : Int)) (hd : decode cc pc = .ok (.ifCond .ne off, 3)) (kt : b = true → Wd l G d own yy cc nL ret tgt L st σ bc bs E) (kf : b = false → Wd l G d own yy cc nL ret (pc + 3) L st σ bc bs E) : Wd l G d own yy cc nL ret pc L (aI (bi b) :: st) σ bc bs E := by
  intro p e R s m args below meth c ls H locs cells slots mc ms r1 r2 r3 r4 C hl hR hS h1 h2
  exact lv_if_ne C.1 C.2.1 hd ht (fun q => kt (bi_n0 q) p e R s m args below meth c ls H locs cells slots mc ms r1 r2 r3 r4 C hl hR hS h1 h2) (fun q => kf (bi_0 q) p e R s m args below meth c ls H locs cells slots mc ms r1 r2 r3 r4 C hl hR hS h1 h2)
theorem r_goto {off : Int} {tgt : Nat} (ht : (pc : Int) + off = (tgt : Int)) (hd : decode cc pc = .ok (.goto off, 3)) (k : Wd l G d own yy cc nL ret tgt L st σ bc bs E) : Wd l G d own yy cc nL ret pc L st σ bc bs E := by
  intro p e R s m args below meth c ls H locs cells slots mc ms r1 r2 r3 r4 C hl hR hS h1 h2
  exact lv_goto C.1 C.2.1 hd ht (k p e R s m args below meth c ls H locs cells slots mc ms r1 r2 r3 r4 C hl hR hS h1 h2)
theorem r_ifnull {o : Option Nat} {off : Int} {tgt : Nat} (ht : (pc : Int) + off = (tgt : Int)) (hd : decode cc pc = .ok (.ifnull off, 3)) (kt : o = none → Wd l G d own yy cc nL ret tgt L st σ bc bs E) (kf : ∀ a, o = some a → Wd l G d own yy cc nL ret (pc + 3) L st σ bc bs E) : Wd l G d own yy cc nL ret pc L (aR o :: st) σ bc bs E := by
  intro p e R s m args below meth c ls H locs cells slots mc ms r1 r2 r3 r4 C hl hR hS h1 h2
  cases o with
  | none => exact lv_ifnullN C.1 C.2.1 hd ht (kt rfl p e R s m args below meth c ls H locs cells slots mc ms r1 r2 r3 r4 C hl hR hS h1 h2)
  | some a => exact lv_ifnull C.1 C.2.1 hd (kf a rfl p e R s m args below meth c ls H locs cells slots mc ms r1 r2 r3 r4 C hl hR hS h1 h2)
theorem r_ifnonnull {o : Option Nat} {off : Int} {tgt : Nat} (ht : (pc : Int) + off = (tgt : Int)) (hd : decode cc pc = .ok (.ifnonnull off, 3)) (kt : ∀ a, o = some a → Wd l G d own yy cc nL ret tgt L st σ bc bs E) (kf : o = none → Wd l G d own yy cc nL ret (pc + 3) L st σ bc bs E) : Wd l G d own yy cc nL ret pc L (aR o :: st) σ bc bs E := by
  intro p e R s m args below meth c ls H locs cells slots mc ms r1 r2 r3 r4 C hl hR hS h1 h2
  cases o with
  | none => exact lv_ifnonnullN C.1 C.2.1 hd (kf rfl p e R s m args below meth c ls H locs cells slots mc ms r1 r2 r3 r4 C hl hR hS h1 h2)
  | some a => exact lv_ifnonnull C.1 C.2.1 hd ht (kt a rfl p e R s m args below meth c ls H locs cells slots mc ms r1 r2 r3 r4 C hl hR hS h1 h2)
theorem r_acmpeq {o o2 : Option Nat} {off : Int} {tgt : Nat} (ht : (pc : Int) + off = (tgt : Int)) (hd : decode cc pc = .ok (.if_acmp .eq off, 3)) (kt : o = o2 → Wd l G d own yy cc nL ret tgt L st σ bc bs E) (kf : ¬ o = o2 → Wd l G d own yy cc nL ret (pc + 3) L st σ bc bs E) : Wd l G d own yy cc nL ret pc L (aR o2 :: aR o :: st) σ bc bs E := by
  intro p e R s m args below meth c ls H locs cells slots mc ms r1 r2 r3 r4 C hl hR hS h1 h2
  exact lv_acmp_eq C.1 C.2.1 hd ht (fun q => kt q p e R s m args below meth c ls H locs cells slots mc ms r1 r2 r3 r4 C hl hR hS h1 h2) (fun q => kf q p e R s m args below meth c ls H locs cells slots mc ms r1 r2 r3 r4 C hl hR hS h1 h2)
theorem r_acmpne {o o2 : Option Nat} {off : Int} {tgt : Nat} (ht : (pc : Int) + off = (tgt : Int)) (hd : decode cc pc = .ok (.if_acmp .ne off, 3)) (kt : ¬ o = o2 → Wd l G d own yy cc nL ret tgt L st σ bc bs E) (kf : o = o2 → Wd l G d own yy cc nL ret (pc + 3) L st σ bc bs E) : Wd l G d own yy cc nL ret pc L (aR o2 :: aR o :: st) σ bc bs E := by
  intro p e R s m args below meth c ls H locs cells slots mc ms r1 r2 r3 r4 C hl hR hS h1 h2
  exact lv_acmp_ne C.1 C.2.1 hd ht (fun q => kt q p e R s m args below meth c ls H locs cells slots mc ms r1 r2 r3 r4 C hl hR hS h1 h2) (fun q => kf q p e R s m args below meth c ls H locs cells slots mc ms r1 r2 r3 r4 C hl hR hS h1 h2)
theorem r_tabOut {x : Int32} {dflt lo hi : Int} {offs : Array Int} {len : Nat} {tgt : Nat} (hx : x.toInt < lo ∨ hi < x.toInt) (ht : (pc : Int) + dflt = (tgt : Int)) (hd : decode cc pc = .ok (.tableswitch dflt lo hi offs, len)) (k : Wd l G d own yy cc nL ret tgt L st σ bc bs E) : Wd l G d own yy cc nL ret pc L (aI x :: st) σ bc bs E := by
  intro p e R s m args below meth c ls H locs cells slots mc ms r1 r2 r3 r4 C hl hR hS h1 h2
  exact lv_tableOut C.1 C.2.1 hd hx ht (k p e R s m args below meth c ls H locs cells slots mc ms r1 r2 r3 r4 C hl hR hS h1 h2)
theorem r_tabIn {x : Int32} {dflt lo hi : Int} {offs : Array Int} {len : Nat} {off : Int} {tgt : Nat} (hx : ¬ x.toInt < lo) (hx2 : ¬ hi < x.toInt) (ho : offs[(x.toInt - lo).toNat]? = some off) (ht : (pc : Int) + off = (tgt : Int)) (hd : decode cc pc = .ok (.tableswitch dflt lo hi offs, len)) (k : Wd l G d own yy cc nL ret tgt L st σ bc bs E) : Wd l G d own yy cc nL ret pc L (aI x :: st) σ bc bs E := by
  intro p e R s m args below meth c ls H locs cells slots mc ms r1 r2 r3 r4 C hl hR hS h1 h2
  exact lv_tableIn C.1 C.2.1 hd hx hx2 ho ht (k p e R s m args below meth c ls H locs cells slots mc ms r1 r2 r3 r4 C hl hR hS h1 h2)
theorem r_get {i t a n : Nat} {Cn : String} {Tt : u_T} {N : Nat} {fs : List AV} {v : AV} (hc : clz[t]? = some (Cn, Tt, N)) (hw : ∀ w ∈ u_ws Cn Tt N, w ∈ gtbl) (hn : n < N) (hlk : Cond.fieldLink own i (Tt n).1 (Tt n).2.1 (Tt n).2.2.1 ∈ gtbl) (ha : σ a = some (.inl (t, fs))) (hv : fs[n]? = some v) (hd : decode cc pc = .ok (.getfield i, 3)) (k : Wd l G d own yy cc nL ret (pc + 3) L (v :: st) σ bc bs E) : Wd l G d own yy cc nL ret pc L (aR (some a) :: st) σ bc bs E := by
  intro p e R s m args below meth c ls H locs cells slots mc ms r1 r2 r3 r4 C hl hR hS h1 h2
  obtain ⟨-, r, g1, g2, cell, q1, q2, q3, q4⟩ := hR a _ ha
  cases g1.symm.trans hc
  obtain ⟨hSl, hfc, kC, hkC, hkind⟩ := C.2.2.2.2.2.2.2.1.1.1 t _ hc
  obtain ⟨cf, kf, fi, f, hi, hsl⟩ := hSl n hn
  refine W.getf C.1 C.2.1 C.2.2.2.1 (C.2.2.2.2.1 _ (List.mem_cons_of_mem _ hlk)) hi (u_facts hfc hkC (u_lays C.2.2.2.2.1 (fun w h => List.mem_cons_of_mem _ (hw w h)) hn) hi).1 q1 (by rw [q3]; exact fun h => by cases h) (v := av v) ?_ rfl rfl hd (k p e R s m args below meth c ls H locs cells slots mc ms r1 r2 r3 r4 C hl hR hS h1 h2)
  rw [hsl, q4 n hn]
  simp [vp_V, hv]
theorem r_getS {i t a n : Nat} {Cn : String} {Tt : u_T} {N : Nat} {fs : List AV} {v : AV} {rf : String} (hc : clz[t]? = some (Cn, Tt, N)) (hw : ∀ w ∈ u_ws Cn Tt N, w ∈ gtbl) (hn : n < N) (hsm : Cond.sameField rf (Tt n).1 (Tt n).2.1 (Tt n).2.2.1 ∈ gtbl) (hlk : Cond.fieldLink own i rf (Tt n).2.1 (Tt n).2.2.1 ∈ gtbl) (ha : σ a = some (.inl (t, fs))) (hv : fs[n]? = some v) (hd : decode cc pc = .ok (.getfield i, 3)) (k : Wd l G d own yy cc nL ret (pc + 3) L (v :: st) σ bc bs E) : Wd l G d own yy cc nL ret pc L (aR (some a) :: st) σ bc bs E := by
  intro p e R s m args below meth c ls H locs cells slots mc ms r1 r2 r3 r4 C hl hR hS h1 h2
  obtain ⟨-, r, g1, g2, cell, q1, q2, q3, q4⟩ := hR a _ ha
  cases g1.symm.trans hc
  obtain ⟨hSl, hfc, kC, hkC, hkind⟩ := C.2.2.2.2.2.2.2.1.1.1 t _ hc
  obtain ⟨cf, kf, fi, f, hi, hsl⟩ := hSl n hn
  refine W.getf C.1 C.2.1 C.2.2.2.1 (C.2.2.2.2.1 _ (List.mem_cons_of_mem _ hlk)) (u_same (C.2.2.2.2.1 _ (List.mem_cons_of_mem _ hsm)) _ hi) (u_facts hfc hkC (u_lays C.2.2.2.2.1 (fun w h => List.mem_cons_of_mem _ (hw w h)) hn) hi).1 q1 (by rw [q3]; exact fun h => by cases h) (v := av v) ?_ rfl rfl hd (k p e R s m args below meth c ls H locs cells slots mc ms r1 r2 r3 r4 C hl hR hS h1 h2)
  rw [hsl, q4 n hn]
  simp [vp_V, hv]
theorem r_put {i t a n : Nat} {Cn : String} {Tt : u_T} {N : Nat} {fs : List AV} {v : AV} (hc : clz[t]? = some (Cn, Tt, N)) (hw : ∀ w ∈ u_ws Cn Tt N, w ∈ gtbl) (hn : n < N) (hlk : Cond.fieldLink own i (Tt n).1 (Tt n).2.1 (Tt n).2.2.1 ∈ gtbl) (ha : σ a = some (.inl (t, fs))) {ty0 : Nat → FieldType} (hty : ∀ k, k < N → parseFieldDescriptor (Tt k).2.2.1 = some (ty0 k)) (hnm : ∀ a, a < N → ∀ b, b < N → a ≠ b → (Tt a).2.1 ≠ (Tt b).2.1) (hfin : (Tt n).2.2.2 = false) (hf : narrow (ty0 n) (av v) = av v ∧ fits (ty0 n) (av v) = true) (hd : decode cc pc = .ok (.putfield i, 3)) (k : Wd l G d own yy cc nL ret (pc + 3) L st (hset σ a (.inl (t, fs.set n v))) bc bs E) : Wd l G d own yy cc nL ret pc L (v :: aR (some a) :: st) σ bc bs E := by
  intro p e R s m args below meth c ls H locs cells slots mc ms r1 r2 r3 r4 C hl hR hS h1 h2
  obtain ⟨hA, r, g1, g2, cell, q1, q2, q3, q4⟩ := hR a _ ha
  cases g1.symm.trans hc
  obtain ⟨hSl, hfc, kC, hkC, hkind⟩ := C.2.2.2.2.2.2.2.1.1.1 t _ hc
  have hap : ∀ x z, x < N → z < N → x ≠ z → gS G t x ≠ gS G t z := by
    intro x z hx hz hne
    obtain ⟨_, _, _, fa, hia, ea⟩ := hSl x hx
    obtain ⟨_, _, _, fb, hib, eb⟩ := hSl z hz
    rw [← ea, ← eb]
    refine u_apart (u_lays C.2.2.2.2.1 (fun w h => List.mem_cons_of_mem _ (hw w h)) hx) (u_lays C.2.2.2.2.1 (fun w h => List.mem_cons_of_mem _ (hw w h)) hz) hia hib ?_
    rw [(State.fieldFound?_type hia (hty x hx)).1, (State.fieldFound?_type hib (hty z hz)).1]
    exact hnm x hx z hz hne
  obtain ⟨cf, kf, fi, f, hi, hsl⟩ := hSl n hn
  have hlay := C.2.2.2.2.1 _ (List.mem_cons_of_mem _ (hw _ (u_in_lay hn)))
  unfold u_lay at hlay
  rw [if_neg (by rw [hfin]; decide)] at hlay
  have hst := (u_facts hfc hkC (u_lays C.2.2.2.2.1 (fun w h => List.mem_cons_of_mem _ (hw w h)) hn) hi).1
  have h6 := u_store hfc hkC hkind hlay hi (hty n hn) hf.1 hf.2
  refine W.putK C.1 C.2.1 (f := f) ⟨C.2.2.2.1, C.2.2.2.2.1 _ (List.mem_cons_of_mem _ hlk), ⟨_, _, _, hi⟩, hst⟩ (by rw [q2]; exact h6) q1 q3 (by rw [hsl]; exact k2_hasslot (q4 n hn)) rfl rfl hd fun H' e1 e2 e3 => ?_
  rw [hsl] at e1 ⊢
  refine k p e R s m args below meth c ls H' _ cells slots mc ms r1 r2 r3 r4 C hl (hR.set ⟨hA, _, hc, by rw [List.length_set]; exact g2, t_OB.to (V := updV (vp_V (fs.map av)) n (av v)) ⟨_, e1, q2, q3, t_set q4 hap hn (av v)⟩ (fun j _ => ?_)⟩ e3) (hS.put e2 e3 hA) h1 h2
  rw [vp_updV_set (by rw [List.length_map]; exact (by rw [g2]; exact hn)), List.map_set]
theorem r_putS {i t a n : Nat} {Cn : String} {Tt : u_T} {N : Nat} {fs : List AV} {v : AV} {rf : String} (hc : clz[t]? = some (Cn, Tt, N)) (hw : ∀ w ∈ u_ws Cn Tt N, w ∈ gtbl) (hn : n < N) (hsm : Cond.sameField rf (Tt n).1 (Tt n).2.1 (Tt n).2.2.1 ∈ gtbl) (hlk : Cond.fieldLink own i rf (Tt n).2.1 (Tt n).2.2.1 ∈ gtbl) (ha : σ a = some (.inl (t, fs))) {ty0 : Nat → FieldType} (hty : ∀ k, k < N → parseFieldDescriptor (Tt k).2.2.1 = some (ty0 k)) (hnm : ∀ a, a < N → ∀ b, b < N → a ≠ b → (Tt a).2.1 ≠ (Tt b).2.1) (hfin : (Tt n).2.2.2 = false) (hf : narrow (ty0 n) (av v) = av v ∧ fits (ty0 n) (av v) = true) (hd : decode cc pc = .ok (.putfield i, 3)) (k : Wd l G d own yy cc nL ret (pc + 3) L st (hset σ a (.inl (t, fs.set n v))) bc bs E) : Wd l G d own yy cc nL ret pc L (v :: aR (some a) :: st) σ bc bs E := by
  intro p e R s m args below meth c ls H locs cells slots mc ms r1 r2 r3 r4 C hl hR hS h1 h2
  obtain ⟨hA, r, g1, g2, cell, q1, q2, q3, q4⟩ := hR a _ ha
  cases g1.symm.trans hc
  obtain ⟨hSl, hfc, kC, hkC, hkind⟩ := C.2.2.2.2.2.2.2.1.1.1 t _ hc
  have hap : ∀ x z, x < N → z < N → x ≠ z → gS G t x ≠ gS G t z := by
    intro x z hx hz hne
    obtain ⟨_, _, _, fa, hia, ea⟩ := hSl x hx
    obtain ⟨_, _, _, fb, hib, eb⟩ := hSl z hz
    rw [← ea, ← eb]
    refine u_apart (u_lays C.2.2.2.2.1 (fun w h => List.mem_cons_of_mem _ (hw w h)) hx) (u_lays C.2.2.2.2.1 (fun w h => List.mem_cons_of_mem _ (hw w h)) hz) hia hib ?_
    rw [(State.fieldFound?_type hia (hty x hx)).1, (State.fieldFound?_type hib (hty z hz)).1]
    exact hnm x hx z hz hne
  obtain ⟨cf, kf, fi, f, hi, hsl⟩ := hSl n hn
  have hlay := C.2.2.2.2.1 _ (List.mem_cons_of_mem _ (hw _ (u_in_lay hn)))
  unfold u_lay at hlay
  rw [if_neg (by rw [hfin]; decide)] at hlay
  have hst := (u_facts hfc hkC (u_lays C.2.2.2.2.1 (fun w h => List.mem_cons_of_mem _ (hw w h)) hn) hi).1
  have h6 := u_store hfc hkC hkind hlay hi (hty n hn) hf.1 hf.2
  refine W.putK C.1 C.2.1 (f := f) ⟨C.2.2.2.1, C.2.2.2.2.1 _ (List.mem_cons_of_mem _ hlk), ⟨_, _, _, u_same (C.2.2.2.2.1 _ (List.mem_cons_of_mem _ hsm)) _ hi⟩, hst⟩ (by rw [q2]; exact h6) q1 q3 (by rw [hsl]; exact k2_hasslot (q4 n hn)) rfl rfl hd fun H' e1 e2 e3 => ?_
  rw [hsl] at e1 ⊢
  refine k p e R s m args below meth c ls H' _ cells slots mc ms r1 r2 r3 r4 C hl (hR.set ⟨hA, _, hc, by rw [List.length_set]; exact g2, t_OB.to (V := updV (vp_V (fs.map av)) n (av v)) ⟨_, e1, q2, q3, t_set q4 hap hn (av v)⟩ (fun j _ => ?_)⟩ e3) (hS.put e2 e3 hA) h1 h2
  rw [vp_updV_set (by rw [List.length_map]; exact (by rw [g2]; exact hn)), List.map_set]
theorem r_putF {i t a n : Nat} {Cn : String} {Tt : u_T} {N : Nat} {fs : List AV} {v : AV} (hc : clz[t]? = some (Cn, Tt, N)) (hw : ∀ w ∈ u_ws Cn Tt N, w ∈ gtbl) (hn : n < N) (hlk : Cond.fieldLink own i (Tt n).1 (Tt n).2.1 (Tt n).2.2.1 ∈ gtbl) (ha : σ a = some (.inl (t, fs))) {ty0 : Nat → FieldType} (hty : ∀ k, k < N → parseFieldDescriptor (Tt k).2.2.1 = some (ty0 k)) (hnm : ∀ a, a < N → ∀ b, b < N → a ≠ b → (Tt a).2.1 ≠ (Tt b).2.1) (hfin : (Tt n).2.2.2 = true) (hin2 : yy.name = "<init>") (hdecl : (Tt n).1 = own) (hf : narrow (ty0 n) (av v) = av v ∧ fits (ty0 n) (av v) = true) (hd : decode cc pc = .ok (.putfield i, 3)) (k : Wd l G d own yy cc nL ret (pc + 3) L st (hset σ a (.inl (t, fs.set n v))) bc bs E) : Wd l G d own yy cc nL ret pc L (v :: aR (some a) :: st) σ bc bs E := by
  intro p e R s m args below meth c ls H locs cells slots mc ms r1 r2 r3 r4 C hl hR hS h1 h2
  obtain ⟨hA, r, g1, g2, cell, q1, q2, q3, q4⟩ := hR a _ ha
  cases g1.symm.trans hc
  obtain ⟨hSl, hfc, kC, hkC, hkind⟩ := C.2.2.2.2.2.2.2.1.1.1 t _ hc
  have hap : ∀ x z, x < N → z < N → x ≠ z → gS G t x ≠ gS G t z := by
    intro x z hx hz hne
    obtain ⟨_, _, _, fa, hia, ea⟩ := hSl x hx
    obtain ⟨_, _, _, fb, hib, eb⟩ := hSl z hz
    rw [← ea, ← eb]
    refine u_apart (u_lays C.2.2.2.2.1 (fun w h => List.mem_cons_of_mem _ (hw w h)) hx) (u_lays C.2.2.2.2.1 (fun w h => List.mem_cons_of_mem _ (hw w h)) hz) hia hib ?_
    rw [(State.fieldFound?_type hia (hty x hx)).1, (State.fieldFound?_type hib (hty z hz)).1]
    exact hnm x hx z hz hne
  obtain ⟨cf, kf, fi, f, hi, hsl⟩ := hSl n hn
  have hlay := C.2.2.2.2.1 _ (List.mem_cons_of_mem _ (hw _ (u_in_lay hn)))
  unfold u_lay at hlay
  rw [if_pos hfin] at hlay
  have hst := (u_facts hfc hkC (u_lays C.2.2.2.2.1 (fun w h => List.mem_cons_of_mem _ (hw w h)) hn) hi).1
  have hcf : m.cls = cf := by
    obtain ⟨_, _, c', _, _, _, -, -, hf', -, -, -, hown2, -⟩ := Cond.laysFinal_spec hlay
    have e1 : c' = cf := by have := hi.symm.trans hf'; simp at this; exact this.1.symm
    rw [hdecl] at hown2
    rw [← e1]; exact Option.some.inj (C.2.2.2.1.symm.trans hown2)
  have h6 := u_fits hfc hkC hkind (Or.inr hlay) hi (hty n hn) hf.1 hf.2
  refine W.putFinK C.1 C.2.1 C.2.2.2.1 (C.2.2.2.2.1 _ (List.mem_cons_of_mem _ hlk)) hi hst hcf (C.2.2.2.2.2.2.2.2.trans hin2) (by rw [q2]; exact h6) q1 q3 (by rw [hsl]; exact k2_hasslot (q4 n hn)) rfl rfl hd fun H' e1 e2 e3 => ?_
  rw [hsl] at e1 ⊢
  refine k p e R s m args below meth c ls H' _ cells slots mc ms r1 r2 r3 r4 C hl (hR.set ⟨hA, _, hc, by rw [List.length_set]; exact g2, t_OB.to (V := updV (vp_V (fs.map av)) n (av v)) ⟨_, e1, q2, q3, t_set q4 hap hn (av v)⟩ (fun j _ => ?_)⟩ e3) (hS.put e2 e3 hA) h1 h2
  rw [vp_updV_set (by rw [List.length_map]; exact (by rw [g2]; exact hn)), List.map_set]
theorem r_iald {a N : Nat} {i : Int32} {f : Nat → Int32} (ha : σ a = some (.inr (0, N, fun j => aI (f j)))) (hin : vp_in i N) (hd : decode cc pc = .ok (.iaload, 1)) (k : Wd l G d own yy cc nL ret (pc + 1) L (aI (f i.toNatClampNeg) :: st) σ bc bs E) : Wd l G d own yy cc nL ret pc L (aI i :: aR (some a) :: st) σ bc bs E := by
  intro p e R s m args below meth c ls H locs cells slots mc ms r1 r2 r3 r4 C hl hR hS h1 h2
  obtain ⟨-, -, -, q1⟩ := hR a _ ha
  have hlt : i.toNatClampNeg < N := Nat.not_le.mp fun q => hin (Or.inr q)
  exact W.iald (v := av (aI (f i.toNatClampNeg))) C.1 C.2.1 (ar_in q1 (show (0 : Nat) ≠ 7 by decide) hlt) ((C.2.2.2.2.2.2.2.1.1.2 0 _ rfl).1 N _) (fun q => by cases q) (by rw [arrV_size]; exact hin) (by rw [arrV_read _ _ hlt]) rfl rfl hd (k p e R s m args below meth c ls H locs cells slots mc ms r1 r2 r3 r4 C hl hR hS h1 h2)
theorem r_sald {a N : Nat} {i : Int32} {f : Nat → Int32} (ha : σ a = some (.inr (7, N, fun j => aI (f j)))) (hin : vp_in i N) (hd : decode cc pc = .ok (.iaload, 1)) (k : Wd l G d own yy cc nL ret (pc + 1) L (aI (f i.toNatClampNeg) :: st) σ bc bs E) : Wd l G d own yy cc nL ret pc L (aI i :: aR (some a) :: st) σ bc bs E := by
  intro p e R s m args below meth c ls H locs cells slots mc ms r1 r2 r3 r4 C hl hR hS h1 h2
  obtain ⟨-, -, -, q1⟩ := hR a _ ha
  have hlt : i.toNatClampNeg < N := Nat.not_le.mp fun q => hin (Or.inr q)
  have hA7 := (C.2.2.2.2.2.2.2.1.1.2 7 _ rfl).1
  rcases q1 with q1 | ⟨cell, q1, c1, c2, c3, ⟨-, c4, c5⟩ | c4⟩
  · exact W.iald (v := av (aI (f i.toNatClampNeg))) C.1 C.2.1 q1 (hA7 N _) (fun q => by cases q) (by rw [arrV_size]; exact hin) (by rw [arrV_read _ _ hlt]) rfl rfl hd (k p e R s m args below meth c ls H locs cells slots mc ms r1 r2 r3 r4 C hl hR hS h1 h2)
  · exact W.iald (v := av (aI (f i.toNatClampNeg))) C.1 C.2.1 q1 (ar_is hA7 c1 c2) c4 (by rw [c3]; exact hin) (c5 _ hlt) rfl rfl hd (k p e R s m args below meth c ls H locs cells slots mc ms r1 r2 r3 r4 C hl hR hS h1 h2)
  · have c6 : N = 0 := c4.1
    omega
theorem r_zald {a N : Nat} {i : Int32} {f : Nat → Bool} (ha : σ a = some (.inr (1, N, fun j => aI (bi (f j))))) (hin : vp_in i N) (hd : decode cc pc = .ok (.baload, 1)) (k : Wd l G d own yy cc nL ret (pc + 1) L (aI (bi (f i.toNatClampNeg)) :: st) σ bc bs E) : Wd l G d own yy cc nL ret pc L (aI i :: aR (some a) :: st) σ bc bs E := by
  intro p e R s m args below meth c ls H locs cells slots mc ms r1 r2 r3 r4 C hl hR hS h1 h2
  obtain ⟨-, -, -, q1⟩ := hR a _ ha
  have hlt : i.toNatClampNeg < N := Nat.not_le.mp fun q => hin (Or.inr q)
  exact W.zald (v := av (aI (bi (f i.toNatClampNeg)))) C.1 C.2.1 (ar_in q1 (show (1 : Nat) ≠ 7 by decide) hlt) ((C.2.2.2.2.2.2.2.1.1.2 1 _ rfl).1 N _) (fun q => by cases q) (by rw [arrV_size]; exact hin) (by rw [arrV_read _ _ hlt]) rfl rfl hd (k p e R s m args below meth c ls H locs cells slots mc ms r1 r2 r3 r4 C hl hR hS h1 h2)
theorem r_lald {a N : Nat} {i : Int32} {f : Nat → Int64} (ha : σ a = some (.inr (2, N, fun j => aJ (f j)))) (hin : vp_in i N) (hd : decode cc pc = .ok (.laload, 1)) (k : Wd l G d own yy cc nL ret (pc + 1) L (aJ (f i.toNatClampNeg) :: st) σ bc bs E) : Wd l G d own yy cc nL ret pc L (aI i :: aR (some a) :: st) σ bc bs E := by
  intro p e R s m args below meth c ls H locs cells slots mc ms r1 r2 r3 r4 C hl hR hS h1 h2
  obtain ⟨-, -, -, q1⟩ := hR a _ ha
  have hlt : i.toNatClampNeg < N := Nat.not_le.mp fun q => hin (Or.inr q)
  exact W.lald (v := av (aJ (f i.toNatClampNeg))) C.1 C.2.1 (ar_in q1 (show (2 : Nat) ≠ 7 by decide) hlt) ((C.2.2.2.2.2.2.2.1.1.2 2 _ rfl).1 N _) (fun q => by cases q) (by rw [arrV_size]; exact hin) (by rw [arrV_read _ _ hlt]) rfl rfl hd (k p e R s m args below meth c ls H locs cells slots mc ms r1 r2 r3 r4 C hl hR hS h1 h2)
theorem r_aald3 {a N : Nat} {i : Int32} {f : Nat → Option Nat} (ha : σ a = some (.inr (3, N, fun j => aR (f j)))) (hin : vp_in i N) (hd : decode cc pc = .ok (.aaload, 1)) (k : Wd l G d own yy cc nL ret (pc + 1) L (aR (f i.toNatClampNeg) :: st) σ bc bs E) : Wd l G d own yy cc nL ret pc L (aI i :: aR (some a) :: st) σ bc bs E := by
  intro p e R s m args below meth c ls H locs cells slots mc ms r1 r2 r3 r4 C hl hR hS h1 h2
  obtain ⟨-, -, -, q1⟩ := hR a _ ha
  have hlt : i.toNatClampNeg < N := Nat.not_le.mp fun q => hin (Or.inr q)
  exact W.aald (v := av (aR (f i.toNatClampNeg))) C.1 C.2.1 (ar_in q1 (show (3 : Nat) ≠ 7 by decide) hlt) ((C.2.2.2.2.2.2.2.1.1.2 3 _ rfl).1 N _) rfl (fun q => by cases q) (by rw [arrV_size]; exact hin) (by rw [arrV_read _ _ hlt]) rfl rfl hd (k p e R s m args below meth c ls H locs cells slots mc ms r1 r2 r3 r4 C hl hR hS h1 h2)
theorem r_aald4 {a N : Nat} {i : Int32} {f : Nat → Option Nat} (ha : σ a = some (.inr (4, N, fun j => aR (f j)))) (hin : vp_in i N) (hd : decode cc pc = .ok (.aaload, 1)) (k : Wd l G d own yy cc nL ret (pc + 1) L (aR (f i.toNatClampNeg) :: st) σ bc bs E) : Wd l G d own yy cc nL ret pc L (aI i :: aR (some a) :: st) σ bc bs E := by
  intro p e R s m args below meth c ls H locs cells slots mc ms r1 r2 r3 r4 C hl hR hS h1 h2
  obtain ⟨-, -, -, q1⟩ := hR a _ ha
  have hlt : i.toNatClampNeg < N := Nat.not_le.mp fun q => hin (Or.inr q)
  exact W.aald (v := av (aR (f i.toNatClampNeg))) C.1 C.2.1 (ar_in q1 (show (4 : Nat) ≠ 7 by decide) hlt) ((C.2.2.2.2.2.2.2.1.1.2 4 _ rfl).1 N _) rfl (fun q => by cases q) (by rw [arrV_size]; exact hin) (by rw [arrV_read _ _ hlt]) rfl rfl hd (k p e R s m args below meth c ls H locs cells slots mc ms r1 r2 r3 r4 C hl hR hS h1 h2)
theorem r_aald5 {a N : Nat} {i : Int32} {f : Nat → Option Nat} (ha : σ a = some (.inr (5, N, fun j => aR (f j)))) (hin : vp_in i N) (hd : decode cc pc = .ok (.aaload, 1)) (k : Wd l G d own yy cc nL ret (pc + 1) L (aR (f i.toNatClampNeg) :: st) σ bc bs E) : Wd l G d own yy cc nL ret pc L (aI i :: aR (some a) :: st) σ bc bs E := by
  intro p e R s m args below meth c ls H locs cells slots mc ms r1 r2 r3 r4 C hl hR hS h1 h2
  obtain ⟨-, -, -, q1⟩ := hR a _ ha
  have hlt : i.toNatClampNeg < N := Nat.not_le.mp fun q => hin (Or.inr q)
  exact W.aald (v := av (aR (f i.toNatClampNeg))) C.1 C.2.1 (ar_in q1 (show (5 : Nat) ≠ 7 by decide) hlt) ((C.2.2.2.2.2.2.2.1.1.2 5 _ rfl).1 N _) rfl (fun q => by cases q) (by rw [arrV_size]; exact hin) (by rw [arrV_read _ _ hlt]) rfl rfl hd (k p e R s m args below meth c ls H locs cells slots mc ms r1 r2 r3 r4 C hl hR hS h1 h2)
theorem r_aald6 {a N : Nat} {i : Int32} {f : Nat → Option Nat} (ha : σ a = some (.inr (6, N, fun j => aR (f j)))) (hin : vp_in i N) (hd : decode cc pc = .ok (.aaload, 1)) (k : Wd l G d own yy cc nL ret (pc + 1) L (aR (f i.toNatClampNeg) :: st) σ bc bs E) : Wd l G d own yy cc nL ret pc L (aI i :: aR (some a) :: st) σ bc bs E := by
  intro p e R s m args below meth c ls H locs cells slots mc ms r1 r2 r3 r4 C hl hR hS h1 h2
  obtain ⟨-, -, -, q1⟩ := hR a _ ha
  have hlt : i.toNatClampNeg < N := Nat.not_le.mp fun q => hin (Or.inr q)
  exact W.aald (v := av (aR (f i.toNatClampNeg))) C.1 C.2.1 (ar_in q1 (show (6 : Nat) ≠ 7 by decide) hlt) ((C.2.2.2.2.2.2.2.1.1.2 6 _ rfl).1 N _) rfl (fun q => by cases q) (by rw [arrV_size]; exact hin) (by rw [arrV_read _ _ hlt]) rfl rfl hd (k p e R s m args below meth c ls H locs cells slots mc ms r1 r2 r3 r4 C hl hR hS h1 h2)
theorem r_iast {a N : Nat} {i : Int32} {f : Nat → Int32} {x : Int32} (ha : σ a = some (.inr (0, N, fun j => aI (f j)))) (hin : vp_in i N) (hd : decode cc pc = .ok (.iastore, 1)) (k : Wd l G d own yy cc nL ret (pc + 1) L st (hset σ a (.inr (0, N, fun j => aI (up_ f i.toNatClampNeg x j)))) bc bs E) : Wd l G d own yy cc nL ret pc L (aI x :: aI i :: aR (some a) :: st) σ bc bs E := by
  intro p e R s m args below meth c ls H locs cells slots mc ms r1 r2 r3 r4 C hl hR hS h1 h2
  obtain ⟨hA, hk1, hk2, q1⟩ := hR a _ ha
  have hlt : i.toNatClampNeg < N := Nat.not_le.mp fun q => hin (Or.inr q)
  refine W.iast C.1 C.2.1 (ar_in q1 (show (0 : Nat) ≠ 7 by decide) hlt) ((C.2.2.2.2.2.2.2.1.1.2 0 _ rfl).1 N _) (fun q => by cases q) (by rw [arrV_size]; exact hin) rfl rfl hd fun H' e1 e2 e3 => ?_
  refine k p e R s m args below meth c ls H' _ cells slots mc ms r1 r2 r3 r4 C hl (hR.set ⟨hA, hk1, hk2, Or.inl ?_⟩ e3) (hS.put e2 e3 ((hA (Nat.lt_of_le_of_lt (Nat.zero_le _) hlt)).resolve_left (ne7 rfl))) h1 h2
  rw [e1, arrV_store]
  refine congrArg some (congrArg (arrV _ N) (funext fun j => ?_))
  by_cases hj : j = i.toNatClampNeg
  · simp [updV, up_, hj, av]
  · simp [updV, up_, hj]
theorem r_zast {a N : Nat} {i : Int32} {f : Nat → Bool} {x : Bool} (ha : σ a = some (.inr (1, N, fun j => aI (bi (f j))))) (hin : vp_in i N) (hd : decode cc pc = .ok (.bastore, 1)) (k : Wd l G d own yy cc nL ret (pc + 1) L st (hset σ a (.inr (1, N, fun j => aI (bi (up_ f i.toNatClampNeg x j))))) bc bs E) : Wd l G d own yy cc nL ret pc L (aI (bi x) :: aI i :: aR (some a) :: st) σ bc bs E := by
  intro p e R s m args below meth c ls H locs cells slots mc ms r1 r2 r3 r4 C hl hR hS h1 h2
  obtain ⟨hA, hk1, hk2, q1⟩ := hR a _ ha
  have hlt : i.toNatClampNeg < N := Nat.not_le.mp fun q => hin (Or.inr q)
  refine W.zast C.1 C.2.1 (ar_in q1 (show (1 : Nat) ≠ 7 by decide) hlt) ((C.2.2.2.2.2.2.2.1.1.2 1 _ rfl).1 N _) (fun q => by cases q) (by rw [arrV_size]; exact hin) rfl rfl hd fun H' e1 e2 e3 => ?_
  refine k p e R s m args below meth c ls H' _ cells slots mc ms r1 r2 r3 r4 C hl (hR.set ⟨hA, hk1, hk2, Or.inl ?_⟩ e3) (hS.put e2 e3 ((hA (Nat.lt_of_le_of_lt (Nat.zero_le _) hlt)).resolve_left (ne7 rfl))) h1 h2
  rw [e1, narrow_bi, arrV_store]
  refine congrArg some (congrArg (arrV _ N) (funext fun j => ?_))
  by_cases hj : j = i.toNatClampNeg
  · simp [updV, up_, hj, av]
  · simp [updV, up_, hj]
theorem r_last {a N : Nat} {i : Int32} {f : Nat → Int64} {x : Int64} (ha : σ a = some (.inr (2, N, fun j => aJ (f j)))) (hin : vp_in i N) (hd : decode cc pc = .ok (.lastore, 1)) (k : Wd l G d own yy cc nL ret (pc + 1) L st (hset σ a (.inr (2, N, fun j => aJ (up_ f i.toNatClampNeg x j)))) bc bs E) : Wd l G d own yy cc nL ret pc L (aJ x :: aI i :: aR (some a) :: st) σ bc bs E := by
  intro p e R s m args below meth c ls H locs cells slots mc ms r1 r2 r3 r4 C hl hR hS h1 h2
  obtain ⟨hA, hk1, hk2, q1⟩ := hR a _ ha
  have hlt : i.toNatClampNeg < N := Nat.not_le.mp fun q => hin (Or.inr q)
  refine W.last C.1 C.2.1 (ar_in q1 (show (2 : Nat) ≠ 7 by decide) hlt) ((C.2.2.2.2.2.2.2.1.1.2 2 _ rfl).1 N _) (fun q => by cases q) (by rw [arrV_size]; exact hin) rfl rfl hd fun H' e1 e2 e3 => ?_
  refine k p e R s m args below meth c ls H' _ cells slots mc ms r1 r2 r3 r4 C hl (hR.set ⟨hA, hk1, hk2, Or.inl ?_⟩ e3) (hS.put e2 e3 ((hA (Nat.lt_of_le_of_lt (Nat.zero_le _) hlt)).resolve_left (ne7 rfl))) h1 h2
  rw [e1, arrV_store]
  refine congrArg some (congrArg (arrV _ N) (funext fun j => ?_))
  by_cases hj : j = i.toNatClampNeg
  · simp [updV, up_, hj, av]
  · simp [updV, up_, hj]
theorem r_aast3 {a N : Nat} {i : Int32} {f : Nat → Option Nat} {x : Nat} {vs : List AV} (ha : σ a = some (.inr (3, N, fun j => aR (f j)))) (hx : σ x = some (.inl (2, vs))) (hin : vp_in i N) (hd : decode cc pc = .ok (.aastore, 1)) (k : Wd l G d own yy cc nL ret (pc + 1) L st (hset σ a (.inr (3, N, fun j => aR (up_ f i.toNatClampNeg (some x) j)))) bc bs E) : Wd l G d own yy cc nL ret pc L (aR (some x) :: aI i :: aR (some a) :: st) σ bc bs E := by
  intro p e R s m args below meth c ls H locs cells slots mc ms r1 r2 r3 r4 C hl hR hS h1 h2
  obtain ⟨hA, hk1, hk2, q1⟩ := hR a _ ha
  obtain ⟨-, r, g1, g2, cellV, v1, v2, v3, -⟩ := hR x _ hx
  cases g1
  have hlt : i.toNatClampNeg < N := Nat.not_le.mp fun q => hin (Or.inr q)
  have h0 : ¬ i < 0 := fun q => hin (Or.inl q)
  have hcls := (C.2.2.2.2.2.2.2.1.1.1 2 _ rfl).2
  obtain ⟨kA, comp, k1, k2, k3, -⟩ := ((C.2.2.2.2.2.2.2.1.1.2 3 _ rfl).2 (by decide)).1
  have hcomp : comp = gC G 2 := Option.some.inj (k3.symm.trans hcls.1)
  subst hcomp
  obtain ⟨kC, hkC, -⟩ := hcls.2
  refine W.aast C.1 C.2.1 (ar_in q1 (show (3 : Nat) ≠ 7 by decide) hlt) (fun q h => by cases h) (fun h => by cases h) k1 k2 rfl hkC ⟨h0, by rw [arrV_size]; exact hlt⟩ v1 (fun q h => by rw [v3] at h; cases h) (by rw [v2]; exact hkC) (by rw [v2]; exact va_assign hcls) rfl rfl hd fun H' e1 e2 e3 => ?_
  refine k p e R s m args below meth c ls H' _ cells slots mc ms r1 r2 r3 r4 C hl (hR.set ⟨hA, hk1, hk2, Or.inl ?_⟩ e3) (hS.put e2 e3 ((hA (Nat.lt_of_le_of_lt (Nat.zero_le _) hlt)).resolve_left (ne7 rfl))) h1 h2
  rw [e1, arrV_store]
  refine congrArg some (congrArg (arrV _ N) (funext fun j => ?_))
  by_cases hj : j = i.toNatClampNeg
  · simp [updV, up_, hj, av, va_rf]
  · simp [updV, up_, hj]
theorem r_aast4 {a N : Nat} {i : Int32} {f : Nat → Option Nat} {x : Nat} {vs : List AV} (ha : σ a = some (.inr (4, N, fun j => aR (f j)))) (hx : σ x = some (.inl (1, vs))) (hin : vp_in i N) (hd : decode cc pc = .ok (.aastore, 1)) (k : Wd l G d own yy cc nL ret (pc + 1) L st (hset σ a (.inr (4, N, fun j => aR (up_ f i.toNatClampNeg (some x) j)))) bc bs E) : Wd l G d own yy cc nL ret pc L (aR (some x) :: aI i :: aR (some a) :: st) σ bc bs E := by
  intro p e R s m args below meth c ls H locs cells slots mc ms r1 r2 r3 r4 C hl hR hS h1 h2
  obtain ⟨hA, hk1, hk2, q1⟩ := hR a _ ha
  obtain ⟨-, r, g1, g2, cellV, v1, v2, v3, -⟩ := hR x _ hx
  cases g1
  have hlt : i.toNatClampNeg < N := Nat.not_le.mp fun q => hin (Or.inr q)
  have h0 : ¬ i < 0 := fun q => hin (Or.inl q)
  have hcls := (C.2.2.2.2.2.2.2.1.1.1 1 _ rfl).2
  obtain ⟨kA, comp, k1, k2, k3, -⟩ := ((C.2.2.2.2.2.2.2.1.1.2 4 _ rfl).2 (by decide)).1
  have hcomp : comp = gC G 1 := Option.some.inj (k3.symm.trans hcls.1)
  subst hcomp
  obtain ⟨kC, hkC, -⟩ := hcls.2
  refine W.aast C.1 C.2.1 (ar_in q1 (show (4 : Nat) ≠ 7 by decide) hlt) (fun q h => by cases h) (fun h => by cases h) k1 k2 rfl hkC ⟨h0, by rw [arrV_size]; exact hlt⟩ v1 (fun q h => by rw [v3] at h; cases h) (by rw [v2]; exact hkC) (by rw [v2]; exact va_assign hcls) rfl rfl hd fun H' e1 e2 e3 => ?_
  refine k p e R s m args below meth c ls H' _ cells slots mc ms r1 r2 r3 r4 C hl (hR.set ⟨hA, hk1, hk2, Or.inl ?_⟩ e3) (hS.put e2 e3 ((hA (Nat.lt_of_le_of_lt (Nat.zero_le _) hlt)).resolve_left (ne7 rfl))) h1 h2
  rw [e1, arrV_store]
  refine congrArg some (congrArg (arrV _ N) (funext fun j => ?_))
  by_cases hj : j = i.toNatClampNeg
  · simp [updV, up_, hj, av, va_rf]
  · simp [updV, up_, hj]
theorem r_aast6 {a N : Nat} {i : Int32} {f : Nat → Option Nat} {x t : Nat} {vs : List AV} {r0 : vw_C} (ha : σ a = some (.inr (6, N, fun j => aR (f j)))) (hx : σ x = some (.inl (t, vs))) (hc : clz[t]? = some r0) (hcs : r0.1 ∈ csz) (hin : vp_in i N) (hd : decode cc pc = .ok (.aastore, 1)) (k : Wd l G d own yy cc nL ret (pc + 1) L st (hset σ a (.inr (6, N, fun j => aR (up_ f i.toNatClampNeg (some x) j)))) bc bs E) : Wd l G d own yy cc nL ret pc L (aR (some x) :: aI i :: aR (some a) :: st) σ bc bs E := by
  intro p e R s m args below meth c ls H locs cells slots mc ms r1 r2 r3 r4 C hl hR hS h1 h2
  obtain ⟨hA, hk1, hk2, q1⟩ := hR a _ ha
  obtain ⟨-, r, g1, g2, cellV, v1, v2, v3, -⟩ := hR x _ hx
  cases g1.symm.trans hc
  have hlt : i.toNatClampNeg < N := Nat.not_le.mp fun q => hin (Or.inr q)
  have h0 : ¬ i < 0 := fun q => hin (Or.inl q)
  have hcls := (C.2.2.2.2.2.2.2.1.1.1 t _ hc).2
  obtain ⟨kA, comp, k1, k2, k3, -⟩ := ((C.2.2.2.2.2.2.2.1.1.2 6 _ rfl).2 (by decide)).1
  obtain ⟨c0, t0, f1, f2, f3⟩ := Cond.castable_spec (va_Nw.use (A := args) rfl (C.xtr.2.2.2.2.2.2.1 _ hcs))
  have e9 : c0 = gC G t := Option.some.inj (f1.symm.trans hcls.1)
  have e8 : t0 = comp := Option.some.inj (f2.symm.trans k3)
  subst e9; subst e8
  obtain ⟨kO, hkO, -⟩ := Vm.findClass_spec f2
  obtain ⟨kC, hkC, -⟩ := hcls.2
  refine W.aast C.1 C.2.1 (ar_in q1 (show (6 : Nat) ≠ 7 by decide) hlt) (fun q h => by cases h) (fun h => by cases h) k1 k2 rfl hkO ⟨h0, by rw [arrV_size]; exact hlt⟩ v1 (fun q h => by rw [v3] at h; cases h) (by rw [v2]; exact hkC) (by rw [v2]; exact f3) rfl rfl hd fun H' e1 e2 e3 => ?_
  refine k p e R s m args below meth c ls H' _ cells slots mc ms r1 r2 r3 r4 C hl (hR.set ⟨hA, hk1, hk2, Or.inl ?_⟩ e3) (hS.put e2 e3 ((hA (Nat.lt_of_le_of_lt (Nat.zero_le _) hlt)).resolve_left (ne7 rfl))) h1 h2
  rw [e1, arrV_store]
  refine congrArg some (congrArg (arrV _ N) (funext fun j => ?_))
  by_cases hj : j = i.toNatClampNeg
  · simp [updV, up_, hj, av, va_rf]
  · simp [updV, up_, hj]
theorem r_alen {a N t : Nat} {f : Nat → AV} (ha : σ a = some (.inr (t, N, f))) (hd : decode cc pc = .ok (.arraylength, 1)) (k : Wd l G d own yy cc nL ret (pc + 1) L (aI (nI N) :: st) σ bc bs E) : Wd l G d own yy cc nL ret pc L (aR (some a) :: st) σ bc bs E := by
  intro p e R s m args below meth c ls H locs cells slots mc ms r1 r2 r3 r4 C hl hR hS h1 h2
  obtain ⟨-, hk1, hk2, q1⟩ := hR a _ ha
  obtain ⟨ty, hty⟩ : ∃ ty, akz[t]? = some ty := by
    have h7 : t < akz.length := hk1
    exact ⟨_, List.getElem?_eq_getElem h7⟩
  have hAt := (C.2.2.2.2.2.2.2.1.1.2 t ty hty).1
  rcases q1 with q1 | ⟨cell, q1, c1, c2, c3, -⟩
  · exact W.alen (n := nI N) C.1 C.2.1 q1 (hAt N _) (by rw [arrV_size]; rfl) rfl rfl hd (k p e R s m args below meth c ls H locs cells slots mc ms r1 r2 r3 r4 C hl hR hS h1 h2)
  · exact W.alen (n := nI N) C.1 C.2.1 q1 (ar_is hAt c1 c2) (by rw [c3]; rfl) rfl rfl hd (k p e R s m args below meth c ls H locs cells slots mc ms r1 r2 r3 r4 C hl hR hS h1 h2)
theorem r_new {i t : Nat} {Cn : String} {Tt : u_T} {N : Nat} {fs : List AV} {ty0 : Nat → FieldType} (hc : clz[t]? = some (Cn, Tt, N)) (hw : ∀ w ∈ u_ws Cn Tt N, w ∈ gtbl) (hty : ∀ k, k < N → parseFieldDescriptor (Tt k).2.2.1 = some (ty0 k)) (hcl : Cond.classLink own i Cn ∈ gtbl) (hins : Cond.instantiable Cn N ∈ gtbl) (hini : Cond.initialized Cn ∈ gtbl) (hlen : fs.length = N) (hfs : ∀ j, j < N → defaultValue (ty0 j) = vp_V (fs.map av) j) (hbc : 1 ≤ bc) (hbs : N ≤ bs) (hd : decode cc pc = .ok (.new i, 3)) (k : ∀ q, σ q = none → Wd l G d own yy cc nL ret (pc + 3) L (aR (some q) :: st) (hset σ q (.inl (t, fs))) (bc - 1) (bs - N) E) : Wd l G d own yy cc nL ret pc L st σ bc bs E := by
  intro p e R s m args below meth c ls H locs cells slots mc ms r1 r2 r3 r4 C hl hR hS h1 h2
  have hKn := C.2.2.2.2.2.2.2.1.1.1 t _ hc
  refine W.newcK C.1 C.2.1 C.2.2.2.1 (C.2.2.2.2.1 _ (List.mem_cons_of_mem _ hcl)) (C.2.2.2.2.1 _ (List.mem_cons_of_mem _ hins)) (C.2.2.2.2.1 _ (List.mem_cons_of_mem _ hini)) rfl hd (by omega) (by omega) hKn.2.1 rfl fun H' kC hkC e1 z1 o1 => ?_
  have hAf : Af G H.size := Nat.le_trans C.2.2.2.2.2.2.2.1.2.1.1 hS.1
  refine k H.size hR.fresh p e R s m args below meth c ls H' _ (cells + 1) (slots + N) mc ms r1 r2 r3 r4 C hl (hR.new ?_ o1) ⟨Nat.le_trans hS.1 (by omega), fun x hx1 hx2 => (o1 x (Nat.lt_of_lt_of_le hx1 hS.1)).trans (hS.2.1 x hx1 hx2), hS.2.2⟩ (by omega) (by omega)
  exact ⟨hAf, _, hc, hlen, (u_born ty0 C.2.2.2.2.1 (fun w h => List.mem_cons_of_mem _ (hw w h)) hKn hkC e1 hty).to hfs⟩
theorem r_newI {n : Int32} {N : Nat} (harr : Cond.arrayClass .int ∈ gtbl) (hn : n = nI N) (hN : N ≤ 60000000) (hbc : 1 ≤ bc) (hbs : N ≤ bs) (hd : decode cc pc = .ok (.newarray .int, 2)) (k : ∀ q, σ q = none → Wd l G d own yy cc nL ret (pc + 2) L (aR (some q) :: st) (hset σ q (.inr (0, N, fun _ => aI 0))) (bc - 1) (bs - N) E) : Wd l G d own yy cc nL ret pc L (aI n :: st) σ bc bs E := by
  intro p e R s m args below meth c ls H locs cells slots mc ms r1 r2 r3 r4 C hl hR hS h1 h2
  subst hn
  have hN2 : N < 2 ^ 31 := by omega
  refine va_newaK (atype := .int) (N := N) C.1 C.2.1 (C.2.2.2.2.1 _ (List.mem_cons_of_mem _ harr)) rfl hd rfl (nI_pos hN2) (nI_clamp hN2) (by show N * 4 ≤ 536870912; omega) (by omega) (by omega) rfl fun H' cA e1 z1 o1 hAr hNm => ?_
  have hAf : Af G H.size := Nat.le_trans C.2.2.2.2.2.2.2.1.2.1.1 hS.1
  have hcA : cA = gA G 0 := Option.some.inj (hNm.symm.trans ((C.2.2.2.2.2.2.2.1.1.2 0 _ rfl).2 (by decide)).2)
  subst hcA
  refine k H.size hR.fresh p e R s m args below meth c ls H' _ (cells + 1) (slots + N) mc ms r1 r2 r3 r4 C hl (hR.new ?_ o1) ⟨Nat.le_trans hS.1 (by omega), fun x hx1 hx2 => (o1 x (Nat.lt_of_lt_of_le hx1 hS.1)).trans (hS.2.1 x hx1 hx2), hS.2.2⟩ (by omega) (by omega)
  exact ⟨fun _ => Or.inr hAf, Nat.le_of_ble_eq_true rfl, hN2, Or.inl e1⟩
theorem r_newZ {n : Int32} {N : Nat} (harr : Cond.arrayClass .boolean ∈ gtbl) (hn : n = nI N) (hN : N ≤ 60000000) (hbc : 1 ≤ bc) (hbs : N ≤ bs) (hd : decode cc pc = .ok (.newarray .boolean, 2)) (k : ∀ q, σ q = none → Wd l G d own yy cc nL ret (pc + 2) L (aR (some q) :: st) (hset σ q (.inr (1, N, fun _ => aI (bi false)))) (bc - 1) (bs - N) E) : Wd l G d own yy cc nL ret pc L (aI n :: st) σ bc bs E := by
  intro p e R s m args below meth c ls H locs cells slots mc ms r1 r2 r3 r4 C hl hR hS h1 h2
  subst hn
  have hN2 : N < 2 ^ 31 := by omega
  refine va_newaK (atype := .boolean) (N := N) C.1 C.2.1 (C.2.2.2.2.1 _ (List.mem_cons_of_mem _ harr)) rfl hd rfl (nI_pos hN2) (nI_clamp hN2) (by show N * 1 ≤ 536870912; omega) (by omega) (by omega) rfl fun H' cA e1 z1 o1 hAr hNm => ?_
  have hAf : Af G H.size := Nat.le_trans C.2.2.2.2.2.2.2.1.2.1.1 hS.1
  have hcA : cA = gA G 1 := Option.some.inj (hNm.symm.trans ((C.2.2.2.2.2.2.2.1.1.2 1 _ rfl).2 (by decide)).2)
  subst hcA
  refine k H.size hR.fresh p e R s m args below meth c ls H' _ (cells + 1) (slots + N) mc ms r1 r2 r3 r4 C hl (hR.new ?_ o1) ⟨Nat.le_trans hS.1 (by omega), fun x hx1 hx2 => (o1 x (Nat.lt_of_lt_of_le hx1 hS.1)).trans (hS.2.1 x hx1 hx2), hS.2.2⟩ (by omega) (by omega)
  exact ⟨fun _ => Or.inr hAf, Nat.le_of_ble_eq_true rfl, hN2, Or.inl e1⟩
theorem r_newJ {n : Int32} {N : Nat} (harr : Cond.arrayClass .long ∈ gtbl) (hn : n = nI N) (hN : N ≤ 60000000) (hbc : 1 ≤ bc) (hbs : N ≤ bs) (hd : decode cc pc = .ok (.newarray .long, 2)) (k : ∀ q, σ q = none → Wd l G d own yy cc nL ret (pc + 2) L (aR (some q) :: st) (hset σ q (.inr (2, N, fun _ => aJ 0))) (bc - 1) (bs - N) E) : Wd l G d own yy cc nL ret pc L (aI n :: st) σ bc bs E := by
  intro p e R s m args below meth c ls H locs cells slots mc ms r1 r2 r3 r4 C hl hR hS h1 h2
  subst hn
  have hN2 : N < 2 ^ 31 := by omega
  refine va_newaK (atype := .long) (N := N) C.1 C.2.1 (C.2.2.2.2.1 _ (List.mem_cons_of_mem _ harr)) rfl hd rfl (nI_pos hN2) (nI_clamp hN2) (by show N * 8 ≤ 536870912; omega) (by omega) (by omega) rfl fun H' cA e1 z1 o1 hAr hNm => ?_
  have hAf : Af G H.size := Nat.le_trans C.2.2.2.2.2.2.2.1.2.1.1 hS.1
  have hcA : cA = gA G 2 := Option.some.inj (hNm.symm.trans ((C.2.2.2.2.2.2.2.1.1.2 2 _ rfl).2 (by decide)).2)
  subst hcA
  refine k H.size hR.fresh p e R s m args below meth c ls H' _ (cells + 1) (slots + N) mc ms r1 r2 r3 r4 C hl (hR.new ?_ o1) ⟨Nat.le_trans hS.1 (by omega), fun x hx1 hx2 => (o1 x (Nat.lt_of_lt_of_le hx1 hS.1)).trans (hS.2.1 x hx1 hx2), hS.2.2⟩ (by omega) (by omega)
  exact ⟨fun _ => Or.inr hAf, Nat.le_of_ble_eq_true rfl, hN2, Or.inl e1⟩
theorem r_newA3 {i : Nat} {n : Int32} {N : Nat} (hcl : Cond.classLink own i "CoinsLaid$Lay" ∈ gtbl) (hn : n = nI N) (hN : N ≤ 60000000) (hbc : 1 ≤ bc) (hbs : N ≤ bs) (hd : decode cc pc = .ok (.anewarray i, 3)) (k : ∀ q, σ q = none → Wd l G d own yy cc nL ret (pc + 3) L (aR (some q) :: st) (hset σ q (.inr (3, N, fun _ => aR none))) (bc - 1) (bs - N) E) : Wd l G d own yy cc nL ret pc L (aI n :: st) σ bc bs E := by
  intro p e R s m args below meth c ls H locs cells slots mc ms r1 r2 r3 r4 C hl hR hS h1 h2
  subst hn
  have hN2 : N < 2 ^ 31 := by omega
  have hcn : (nI N).toNatClampNeg = N := nI_clamp hN2
  refine W.anew C.1 C.2.1 C.2.2.2.1 (C.2.2.2.2.1 _ (List.mem_cons_of_mem _ hcl)) ((C.xtr.2.2.2.2.2.2.2.1 "CoinsLaid$Lay" (by simp [aoz])).use) rfl hd rfl (nI_pos hN2) (by rw [hcn]; omega) (by omega) (by rw [hcn]; omega) fun cA kA comp f1 f2 f3 f4 => ?_
  rw [hcn]
  generalize hH1 : H.push ({ cls := cA, slots := Array.replicate N .null, vm := .none } : Cell) = H'
  have z1 : H'.size = H.size + 1 := by rw [← hH1, Array.size_push]
  have e1 : H'[H.size]? = some (arrV cA N (fun _ => .null)) := by rw [← hH1, Array.getElem?_push_size, ← arrV_new]
  have o1 : ∀ q : Nat, q < H.size → H'[q]? = H[q]? := fun q hq => by rw [← hH1, Array.getElem?_push, if_neg (Nat.ne_of_lt hq)]
  have hAf : Af G H.size := Nat.le_trans C.2.2.2.2.2.2.2.1.2.1.1 hS.1
  have hcA : cA = gA G 3 := Option.some.inj (f1.symm.trans ((C.2.2.2.2.2.2.2.1.1.2 3 _ rfl).2 (by decide)).2)
  subst hcA
  refine k H.size hR.fresh p e R s m args below meth c ls H' _ (cells + 1) (slots + N) mc ms r1 r2 r3 r4 C hl (hR.new ?_ o1) ⟨Nat.le_trans hS.1 (by omega), fun x hx1 hx2 => (o1 x (Nat.lt_of_lt_of_le hx1 hS.1)).trans (hS.2.1 x hx1 hx2), hS.2.2⟩ (by omega) (by omega)
  exact ⟨fun _ => Or.inr hAf, Nat.le_of_ble_eq_true rfl, hN2, Or.inl e1⟩
theorem r_newA4 {i : Nat} {n : Int32} {N : Nat} (hcl : Cond.classLink own i "CoinsLaid$Laid" ∈ gtbl) (hn : n = nI N) (hN : N ≤ 60000000) (hbc : 1 ≤ bc) (hbs : N ≤ bs) (hd : decode cc pc = .ok (.anewarray i, 3)) (k : ∀ q, σ q = none → Wd l G d own yy cc nL ret (pc + 3) L (aR (some q) :: st) (hset σ q (.inr (4, N, fun _ => aR none))) (bc - 1) (bs - N) E) : Wd l G d own yy cc nL ret pc L (aI n :: st) σ bc bs E := by
  intro p e R s m args below meth c ls H locs cells slots mc ms r1 r2 r3 r4 C hl hR hS h1 h2
  subst hn
  have hN2 : N < 2 ^ 31 := by omega
  have hcn : (nI N).toNatClampNeg = N := nI_clamp hN2
  refine W.anew C.1 C.2.1 C.2.2.2.1 (C.2.2.2.2.1 _ (List.mem_cons_of_mem _ hcl)) ((C.xtr.2.2.2.2.2.2.2.1 "CoinsLaid$Laid" (by simp [aoz])).use) rfl hd rfl (nI_pos hN2) (by rw [hcn]; omega) (by omega) (by rw [hcn]; omega) fun cA kA comp f1 f2 f3 f4 => ?_
  rw [hcn]
  generalize hH1 : H.push ({ cls := cA, slots := Array.replicate N .null, vm := .none } : Cell) = H'
  have z1 : H'.size = H.size + 1 := by rw [← hH1, Array.size_push]
  have e1 : H'[H.size]? = some (arrV cA N (fun _ => .null)) := by rw [← hH1, Array.getElem?_push_size, ← arrV_new]
  have o1 : ∀ q : Nat, q < H.size → H'[q]? = H[q]? := fun q hq => by rw [← hH1, Array.getElem?_push, if_neg (Nat.ne_of_lt hq)]
  have hAf : Af G H.size := Nat.le_trans C.2.2.2.2.2.2.2.1.2.1.1 hS.1
  have hcA : cA = gA G 4 := Option.some.inj (f1.symm.trans ((C.2.2.2.2.2.2.2.1.1.2 4 _ rfl).2 (by decide)).2)
  subst hcA
  refine k H.size hR.fresh p e R s m args below meth c ls H' _ (cells + 1) (slots + N) mc ms r1 r2 r3 r4 C hl (hR.new ?_ o1) ⟨Nat.le_trans hS.1 (by omega), fun x hx1 hx2 => (o1 x (Nat.lt_of_lt_of_le hx1 hS.1)).trans (hS.2.1 x hx1 hx2), hS.2.2⟩ (by omega) (by omega)
  exact ⟨fun _ => Or.inr hAf, Nat.le_of_ble_eq_true rfl, hN2, Or.inl e1⟩
theorem r_newA6 {i : Nat} {n : Int32} {N : Nat} (hcl : Cond.classLink own i "java/lang/Object" ∈ gtbl) (hn : n = nI N) (hN : N ≤ 60000000) (hbc : 1 ≤ bc) (hbs : N ≤ bs) (hd : decode cc pc = .ok (.anewarray i, 3)) (k : ∀ q, σ q = none → Wd l G d own yy cc nL ret (pc + 3) L (aR (some q) :: st) (hset σ q (.inr (6, N, fun _ => aR none))) (bc - 1) (bs - N) E) : Wd l G d own yy cc nL ret pc L (aI n :: st) σ bc bs E := by
  intro p e R s m args below meth c ls H locs cells slots mc ms r1 r2 r3 r4 C hl hR hS h1 h2
  subst hn
  have hN2 : N < 2 ^ 31 := by omega
  have hcn : (nI N).toNatClampNeg = N := nI_clamp hN2
  refine W.anew C.1 C.2.1 C.2.2.2.1 (C.2.2.2.2.1 _ (List.mem_cons_of_mem _ hcl)) ((C.xtr.2.2.2.2.2.2.2.1 "java/lang/Object" (by simp [aoz])).use) rfl hd rfl (nI_pos hN2) (by rw [hcn]; omega) (by omega) (by rw [hcn]; omega) fun cA kA comp f1 f2 f3 f4 => ?_
  rw [hcn]
  generalize hH1 : H.push ({ cls := cA, slots := Array.replicate N .null, vm := .none } : Cell) = H'
  have z1 : H'.size = H.size + 1 := by rw [← hH1, Array.size_push]
  have e1 : H'[H.size]? = some (arrV cA N (fun _ => .null)) := by rw [← hH1, Array.getElem?_push_size, ← arrV_new]
  have o1 : ∀ q : Nat, q < H.size → H'[q]? = H[q]? := fun q hq => by rw [← hH1, Array.getElem?_push, if_neg (Nat.ne_of_lt hq)]
  have hAf : Af G H.size := Nat.le_trans C.2.2.2.2.2.2.2.1.2.1.1 hS.1
  have hcA : cA = gA G 6 := Option.some.inj (f1.symm.trans ((C.2.2.2.2.2.2.2.1.1.2 6 _ rfl).2 (by decide)).2)
  subst hcA
  refine k H.size hR.fresh p e R s m args below meth c ls H' _ (cells + 1) (slots + N) mc ms r1 r2 r3 r4 C hl (hR.new ?_ o1) ⟨Nat.le_trans hS.1 (by omega), fun x hx1 hx2 => (o1 x (Nat.lt_of_lt_of_le hx1 hS.1)).trans (hS.2.1 x hx1 hx2), hS.2.2⟩ (by omega) (by omega)
  exact ⟨fun _ => Or.inr hAf, Nat.le_of_ble_eq_true rfl, hN2, Or.inl e1⟩
theorem r_cast {i a t : Nat} {fs : List AV} {q0 : vw_C} (hc : clz[t]? = some q0) (hlk : Cond.classLink own i q0.1 ∈ gtbl) (ha : σ a = some (.inl (t, fs))) (hd : decode cc pc = .ok (.checkcast i, 3)) (k : Wd l G d own yy cc nL ret (pc + 3) L (aR (some a) :: st) σ bc bs E) : Wd l G d own yy cc nL ret pc L (aR (some a) :: st) σ bc bs E := by
  intro p e R s m args below meth c ls H locs cells slots mc ms r1 r2 r3 r4 C hl hR hS h1 h2
  obtain ⟨-, r, g1, g2, cell, q1, q2, q3, -⟩ := hR a _ ha
  cases g1.symm.trans hc
  have hcls := (C.2.2.2.2.2.2.2.1.1.1 t _ hc).2
  exact va_castS C.1 C.2.1 C.2.2.2.1 (C.2.2.2.2.1 _ (List.mem_cons_of_mem _ hlk)) hcls ⟨cell, q1, by rw [q3]; rfl, by rw [q2]; exact hcls.1⟩ hd (k p e R s m args below meth c ls H locs cells slots mc ms r1 r2 r3 r4 C hl hR hS h1 h2)
theorem r_strV {i j : Nat} {q0 : String × Nat × String × List Nat} (hj : ssz[j]? = some q0) (hlk : Cond.fieldLink own i "java/lang/String" "value" "[B" ∈ gtbl) (hd : decode cc pc = .ok (.getfield i, 3)) (k : Wd l G d own yy cc nL ret (pc + 3) L (aR (some (gV G j)) :: st) σ bc bs E) : Wd l G d own yy cc nL ret pc L (aR (some (gK G j)) :: st) σ bc bs E := by
  intro p e R s m args below meth c ls H locs cells slots mc ms r1 r2 r3 r4 C hl hR hS h1 h2
  exact vk_getf C.1 C.2.1 (C.xtr.1 j _ hj).2.2.2.1 hS C.2.2.2.1 (C.2.2.2.2.1 _ (List.mem_cons_of_mem _ hlk)) (fun x h => h) hd (k p e R s m args below meth c ls H locs cells slots mc ms r1 r2 r3 r4 C hl hR hS h1 h2)
theorem r_strC {i j : Nat} {q0 : String × Nat × String × List Nat} (hj : ssz[j]? = some q0) (hlk : Cond.fieldLink own i "java/lang/String" "code\x72" "B" ∈ gtbl) (hd : decode cc pc = .ok (.getfield i, 3)) (k : Wd l G d own yy cc nL ret (pc + 3) L (aI 0 :: st) σ bc bs E) : Wd l G d own yy cc nL ret pc L (aR (some (gK G j)) :: st) σ bc bs E := by
  intro p e R s m args below meth c ls H locs cells slots mc ms r1 r2 r3 r4 C hl hR hS h1 h2
  exact vk_getf C.1 C.2.1 (C.xtr.1 j _ hj).2.2.1 hS C.2.2.2.1 (C.2.2.2.2.1 _ (List.mem_cons_of_mem _ hlk)) (fun x h => h) hd (k p e R s m args below meth c ls H locs cells slots mc ms r1 r2 r3 r4 C hl hR hS h1 h2)
theorem r_alenS {j : Nat} {q0 : String × Nat × String × List Nat} (hj : ssz[j]? = some q0) (hd : decode cc pc = .ok (.arraylength, 1)) (k : Wd l G d own yy cc nL ret (pc + 1) L (aI (nI q0.2.2.2.length) :: st) σ bc bs E) : Wd l G d own yy cc nL ret pc L (aR (some (gV G j)) :: st) σ bc bs E := by
  intro p e R s m args below meth c ls H locs cells slots mc ms r1 r2 r3 r4 C hl hR hS h1 h2
  obtain ⟨cell, g1, g2, g3, g4, g5, g6, g7⟩ := (C.xtr.1 j _ hj).2.2.2.2
  have hc : H[gV G j]? = some cell := by rw [hS.2.1 _ (Array.getElem?_eq_some_iff.mp g1).1 g7]; exact g1
  exact W.alen C.1 C.2.1 hc g2 g5 rfl rfl hd (k p e R s m args below meth c ls H locs cells slots mc ms r1 r2 r3 r4 C hl hR hS h1 h2)
theorem r_baldS {j : Nat} {x : Int32} {q0 : String × Nat × String × List Nat} (hj : ssz[j]? = some q0) (hin : vp_in x q0.2.2.2.length) (hd : decode cc pc = .ok (.baload, 1)) (k : Wd l G d own yy cc nL ret (pc + 1) L (aI (nI (q0.2.2.2.getD x.toNatClampNeg 0)) :: st) σ bc bs E) : Wd l G d own yy cc nL ret pc L (aI x :: aR (some (gV G j)) :: st) σ bc bs E := by
  intro p e R s m args below meth c ls H locs cells slots mc ms r1 r2 r3 r4 C hl hR hS h1 h2
  obtain ⟨cell, g1, g2, g3, g4, g5, g6, g7⟩ := (C.xtr.1 j _ hj).2.2.2.2
  have hc : H[gV G j]? = some cell := by rw [hS.2.1 _ (Array.getElem?_eq_some_iff.mp g1).1 g7]; exact g1
  have hlt : x.toNatClampNeg < q0.2.2.2.length := Nat.not_le.mp fun q => hin (Or.inr q)
  exact W.bald C.1 C.2.1 hc g2 g3 (fun h => h.elim (fun h => hin (Or.inl h)) (fun h => by omega)) (g6 _ hlt) rfl rfl hd (k p e R s m args below meth c ls H locs cells slots mc ms r1 r2 r3 r4 C hl hR hS h1 h2)
theorem r_getsQ {i : Nat} (hlk : Cond.fieldLink own i "jdk/internal/util/Preconditions" "SIOOBE_FORMATTER" "Ljava/util/function/BiFunction;" ∈ gtbl) (hd : decode cc pc = .ok (.getstatic i, 3)) (k : ∀ o, Wd l G d own yy cc nL ret (pc + 3) L (aR o :: st) σ bc bs E) : Wd l G d own yy cc nL ret pc L st σ bc bs E := by
  intro p e R s m args below meth c ls H locs cells slots mc ms r1 r2 r3 r4 C hl hR hS h1 h2
  rcases C.xtr.2.2.2.2.2.2.2.2.2.1 with h | ⟨t, h⟩
  · exact va_gets C.1 C.2.1 h hS C.2.2.2.1 (C.2.2.2.2.1 _ (List.mem_cons_of_mem _ hlk)) (fun x h => h) hd (k none p e R s m args below meth c ls H locs cells slots mc ms r1 r2 r3 r4 C hl hR hS h1 h2)
  · exact va_gets C.1 C.2.1 h hS C.2.2.2.1 (C.2.2.2.2.1 _ (List.mem_cons_of_mem _ hlk)) (fun x h => h) hd (k (some t) p e R s m args below meth c ls H locs cells slots mc ms r1 r2 r3 r4 C hl hR hS h1 h2)
theorem r_i2c {x : Int32} (hd : decode cc pc = .ok (.i2c, 1)) (k : Wd l G d own yy cc nL ret (pc + 1) L (aI (x.toUInt32 % 65536).toInt32 :: st) σ bc bs E) : Wd l G d own yy cc nL ret pc L (aI x :: st) σ bc bs E := by
  intro p e R s m args below meth c ls H locs cells slots mc ms r1 r2 r3 r4 C hl hR hS h1 h2
  exact lv_i2c C.1 C.2.1 hd rfl (k p e R s m args below meth c ls H locs cells slots mc ms r1 r2 r3 r4 C hl hR hS h1 h2)
theorem r_getClass {i a N : Nat} {f : Nat → AV} (wl : Cond.methodLink own i ⟨"java/lang/Object", "getClass", "()Ljava/lang/Class;"⟩ ∈ gtbl) (wsl : Cond.selects "[Ljava/lang/Object;" ⟨"java/lang/Object", "getClass", "()Ljava/lang/Class;"⟩ ⟨"java/lang/Object", "getClass", "()Ljava/lang/Class;"⟩ ∈ gtbl) (wi : Cond.instanceMethod ⟨"java/lang/Object", "getClass", "()Ljava/lang/Class;"⟩ ∈ gtbl) (wn : Cond.native ⟨"java/lang/Object", "getClass", "()Ljava/lang/Class;"⟩ ∈ gtbl) (hdp : 1 ≤ d) (hst : (st.map fun v => (av v).category).sum ≤ 8) (ha : σ a = some (.inr (6, N, f))) (hd : decode cc pc = .ok (.invokevirtual i, 3)) (k : Wd l G d own yy cc nL ret (pc + 3) L (aR (some (gM G)) :: st) σ bc bs E) : Wd l G d own yy cc nL ret pc L (aR (some a) :: st) σ bc bs E := by
  intro p e R s m args below meth c ls H locs cells slots mc ms r1 r2 r3 r4 C hl hR hS h1 h2
  obtain ⟨-, -, -, q1⟩ := hR a _ ha
  have hq1 : ∃ cell : Cell, H[a]? = some cell ∧ cell.vm.isStatics = false ∧ s.vm.findClass "[Ljava/lang/Object;" = some cell.cls := by
    have h6 := ((C.2.2.2.2.2.2.2.1.1.2 6 _ rfl).2 (by decide)).2
    rcases q1 with q1 | ⟨cell, q1, c1, c2, c3, c4 | c4⟩
    · exact ⟨_, q1, rfl, h6⟩
    · exact absurd c4.1 (show ¬ (6 : Nat) = 7 by decide)
    · exact ⟨cell, q1, c4.2, by rw [c1]; exact h6⟩
  exact va_getC C.1 C.2.1 (C.2.2.1.trans hl.1.symm) C.2.2.2.1 (C.2.2.2.2.1 _ (List.mem_cons_of_mem _ wl)) (C.xtr.2.2.2.2.2.1.use) (C.2.2.2.2.1 _ (List.mem_cons_of_mem _ wsl)) (C.2.2.2.2.1 _ (List.mem_cons_of_mem _ wi)) (C.2.2.2.2.1 _ (List.mem_cons_of_mem _ wn)) C.xtr.2.2.2.2.1 hq1 (Nat.le_trans hdp r1) (by rw [List.map_map]; show (st.map fun v => (av v).category).sum + 14 ≤ R.locals; omega) hd (k p e R s m args below meth c ls H locs cells slots mc ms r1 r2 r3 r4 C hl hR hS h1 h2)
theorem r_copyO {i a a0 n0 n1 : Nat} {f g : Nat → Option Nat} {sp dp n : Int32} (wl : Cond.methodLink own i arraycopyName ∈ gtbl) (wn : Cond.native arraycopyName ∈ gtbl) (ws : Cond.static arraycopyName ∈ gtbl) (wi : Cond.initialized "java/lang/System" ∈ gtbl) (hdp : 1 ≤ d) (hst : (st.map fun v => (av v).category).sum ≤ 8) (ha0 : σ a0 = some (.inr (6, n0, fun j => aR (f j)))) (ha : σ a = some (.inr (6, n1, fun j => aR (g j)))) (h0 : 0 < n0 ∧ 0 < n1) (g1 : ¬ sp < 0) (g2 : ¬ dp < 0) (g3 : ¬ n < 0) (g4 : sp.toNatClampNeg + n.toNatClampNeg ≤ n0) (g5 : dp.toNatClampNeg + n.toNatClampNeg ≤ n1) (hel : ∀ i : Nat, i < n.toNatClampNeg → ∀ y : Nat, f (sp.toNatClampNeg + i) = some y → ∃ t vs, σ y = some (.inl (t, vs)) ∧ (t = 0 ∨ t = 5 ∨ t = 2)) (hd : decode cc pc = .ok (.invokestatic i, 3)) (k : Wd l G d own yy cc nL ret (pc + 3) L st (hset σ a (.inr (6, n1, (fun j => aR (va_cpy f g sp.toNatClampNeg dp.toNatClampNeg n.toNatClampNeg j))))) bc bs E) : Wd l G d own yy cc nL ret pc L (aI n :: aI dp :: aR (some a) :: aI sp :: aR (some a0) :: st) σ bc bs E := by
  intro p e R s m args below meth c ls H locs cells slots mc ms r1 r2 r3 r4 C hl hR hS h1 h2
  have nn : ∀ z : Int32, ¬ z < 0 → z.toInt = (z.toNatClampNeg : Int) := by
    intro z hz
    have hz0 : (0 : Int) ≤ z.toInt := by
      have := Int32.not_lt.mp hz
      simpa using Int32.le_iff_toInt_le.mp this
    show z.toInt = ((z.toInt.toNat : Nat) : Int)
    omega
  obtain ⟨-, -, -, hc0⟩ := hR a0 _ ha0
  obtain ⟨hAa, hk1, hk2, hc1⟩ := hR a _ ha
  have hA : Af G a := (hAa h0.2).resolve_left (ne7 rfl)
  have hc0 := ar_in hc0 (show (6 : Nat) ≠ 7 by decide) h0.1
  have hc1 := ar_in hc1 (show (6 : Nat) ≠ 7 by decide) h0.2
  have hKo := C.2.2.2.2.2.2.2.1.1.2 6 _ rfl
  obtain ⟨-, k0, hk0, cm0, hkk0⟩ := hKo.1 n0 (fun j => av (aR (f j)))
  have hw9 : nativeFrameWords "java/lang/System" "arraycopy" 5 ≤ 20 := by decide
  have tsz : ∀ (N : Nat) (F : Nat → Value), (arrV (gA G 6) N F).slots.size = N := fun N F => arrV_size _ _ _
  intro T hT X
  obtain ⟨vm', X', step⟩ := X.arraycopy C.1 C.2.2.2.1 (C.2.2.2.2.1 _ (List.mem_cons_of_mem _ wl)) (C.2.2.2.2.1 _ (List.mem_cons_of_mem _ wn)) (C.2.2.2.2.1 _ (List.mem_cons_of_mem _ ws)) (C.2.2.2.2.1 _ (List.mem_cons_of_mem _ wi)) (src := a0) (dst := a) (cs := arrV (gA G 6) n0 (fun j => av (aR (f j)))) (cd := arrV (gA G 6) n1 (fun j => av (aR (g j)))) (srcPos := sp) (destPos := dp) (n := n) (by rw [hT]; exact hc0) (by rw [hT]; exact hc1)
    (fun _ h => by cases h) (fun _ h => by cases h) (fun h => by cases h) (fun h => by cases h) hk0 hk0 hkk0 hkk0 rfl g1 g2 g3
    (by rw [nn sp g1, nn n g3, tsz]; omega)
    (by rw [nn dp g2, nn n g3, tsz]; omega)
    (fun vm₁ hal i hi => by
      have e9 : (arrV (gA G 6) n0 (fun j => av (aR (f j)))).slots.getD (sp.toNatClampNeg + i) .null = va_rf (f (sp.toNatClampNeg + i)) := by
        rw [Array.getD_eq_getD_getElem?, arrV_read _ _ (by omega)]
        rfl
      rw [e9]
      cases hy : f (sp.toNatClampNeg + i) with
      | none => exact ⟨rfl, trivial⟩
      | some y =>
        obtain ⟨t9, vs9, hy9, ht9⟩ := hel i hi y hy
        obtain ⟨-, r9, g9, -, cellV, v1, v2, v3, -⟩ := hR y _ hy9
        have hcls := (C.2.2.2.2.2.2.2.1.1.1 t9 _ g9).2
        obtain ⟨kA, comp, r1, r2, r3, -⟩ := (hKo.2 (by decide)).1
        cases hk0.symm.trans r1
        cases hkk0.symm.trans r2
        have hcs : r9.1 ∈ csz := by
          rcases ht9 with rfl | rfl | rfl <;> (cases g9; simp [csz, RX0, RX5, RX2])
        obtain ⟨c00, t00, f1, f2, f3⟩ := Cond.castable_spec (va_Nw.use (A := args) rfl (C.xtr.2.2.2.2.2.2.1 _ hcs))
        have e10 : c00 = gC G t9 := Option.some.inj (f1.symm.trans hcls.1)
        have e11 : t00 = cm0 := Option.some.inj (f2.symm.trans r3)
        subst e10; subst e11
        obtain ⟨kE, hkE, -⟩ := Vm.findClass_spec r3
        obtain ⟨kC, hkC, -⟩ := hcls.2
        obtain ⟨kC', hkC', -⟩ := hal.2.2 _ _ hkC
        obtain ⟨kE', hkE', -⟩ := hal.2.2 _ _ hkE
        refine ⟨rfl, cellV, (show T.heap[y]? = some cellV by rw [hT]; exact v1), (fun q h => by rw [v3] at h; cases h), ⟨kC', by rw [v2]; exact hkC'⟩, ⟨kE', hkE'⟩, ?_⟩
        show vm₁.assignable _ _ = true
        rw [hal.assignable, v2]
        exact f3)
    (g := F0 m pc ls (.int n :: .int dp :: .ref a :: .int sp :: .ref a0 :: st.map av)) rfl (hl.1.trans C.2.2.1.symm) (rest := st.map av) rfl (by rw [C.2.1]; exact hd) (Nat.le_trans hdp r1) (by rw [List.map_map]; show 2 * 0 + (st.map fun v => (av v).category).sum + (nativeFrameWords "java/lang/System" "arraycopy" 5 + 11) ≤ R.locals; omega)
  have e1 : copied (arrV (gA G 6) n0 (fun j => av (aR (f j)))) (arrV (gA G 6) n1 (fun j => av (aR (g j)))) sp dp n = arrV (gA G 6) n1 (fun j => av (aR (va_cpy f g sp.toNatClampNeg dp.toNatClampNeg n.toNatClampNeg j))) := va_copied (fun z => va_rf z) _ _ f g g4
  rw [e1] at X' step
  have hla : a < H.size := (Array.getElem?_eq_some_iff.mp hc1).1
  obtain ⟨t, a1, b1⟩ := k p e R s m args below meth c ls (H.setIfInBounds a (arrV (gA G 6) n1 (fun j => av (aR (va_cpy f g sp.toNatClampNeg dp.toNatClampNeg n.toNatClampNeg j))))) _ cells slots mc ms r1 r2 r3 r4 C hl (hR.set ⟨fun _ => Or.inr hA, hk1, hk2, Or.inl (by simp [Array.getElem?_setIfInBounds, hla])⟩ (fun q hq => by simp [Array.getElem?_setIfInBounds, Ne.symm hq])) ⟨by simp; exact hS.1, fun q u1 u2 => by
      rw [show (H.setIfInBounds a (arrV (gA G 6) n1 (fun j => av (aR (va_cpy f g sp.toNatClampNeg dp.toNatClampNeg n.toNatClampNeg j)))))[q]? = H[q]? from by rw [Array.getElem?_setIfInBounds, if_neg (fun e9 : a = q => u2 (e9 ▸ hA))]]
      exact hS.2.1 q u1 u2, fun q hq => by
      rcases List.mem_append.mp hq with h | h
      · exact hS.2.2 q h
      · obtain ⟨z, -, hz⟩ := List.mem_map.mp h
        rw [← hz]
        exact hA⟩ h1 h2 ((T.setVm vm').setCell a _) (by rw [← hT]; rfl) X'
  exact ⟨t, step t a1, b1⟩
theorem r_mna {i : Nat} {n k0 : Int32} {N M : Nat} (hcl : Cond.classLink own i "[[I" ∈ gtbl) (harr : Cond.arrayClass .int ∈ gtbl) (hn : n = nI N) (hk0 : k0 = nI M) (hN : N ≤ 1000) (hM : M ≤ 1000) (hbc : 1 + N ≤ bc) (hbs : N + N * M ≤ bs) (hd : decode cc pc = .ok (.multianewarray i 2, 4)) (k : ∀ q, (∀ a, q ≤ a → σ a = none) → Wd l G d own yy cc nL ret (pc + 4) L (aR (some q) :: st) (fun z => if z = q then some (.inr (5, N, fun j => aR (some (q + 1 + j)))) else if q < z ∧ z ≤ q + N then some (.inr (0, M, fun _ => aI 0)) else σ z) (bc - (1 + N)) (bs - (N + N * M)) E) : Wd l G d own yy cc nL ret pc L (aI k0 :: aI n :: st) σ bc bs E := by
  intro p e R s m args below meth c ls H locs cells slots mc ms r1 r2 r3 r4 C hl hR hS h1 h2
  subst hn
  subst hk0
  have hcN : (nI N).toNatClampNeg = N := nI_clamp (by omega)
  have hcM : (nI M).toNatClampNeg = M := nI_clamp (by omega)
  have hAf : Af G H.size := Nat.le_trans C.2.2.2.2.2.2.2.1.2.1.1 hS.1
  have hcy : s.vm.findClass (FieldType.array .int).toString = some (gA G 0) := ((C.2.2.2.2.2.2.2.1.1.2 0 _ rfl).2 (by decide)).2
  intro T hT X0
  have hbsN : N * M ≤ bs := by omega
  obtain ⟨vm₁, cA, comp, -, fA, fC, hO, -, X', step⟩ := X0.multianewarray2F C.1 C.2.2.2.1 (C.2.2.2.2.1 _ (List.mem_cons_of_mem _ hcl)) (C.xtr.2.2.2.2.2.2.2.2.1.use) (C.2.2.2.2.1 _ (List.mem_cons_of_mem _ harr)) (g := F0 m pc ls (.int (nI M) :: .int (nI N) :: st.map av)) rfl (by rw [C.2.1]; exact hd) rfl (nI_pos (by omega)) (nI_pos (by omega)) (by rw [hcN]; omega) (by rw [hcM]; show M * 4 ≤ 536870912; omega) (by rw [hcM]; omega) rfl rfl (by rw [hcN]; omega) (by rw [hcN, hcM]; omega)
  have ec : some (gA G 0) = some comp := hcy.symm.trans fC
  cases ec
  have ecA : cA = gA G 5 := Option.some.inj (fA.symm.trans ((C.2.2.2.2.2.2.2.1.1.2 5 _ rfl).2 (by decide)).2)
  subst ecA
  rw [hcN, hcM] at X' step
  generalize hF : Jvm.Free.Multi.fill (T.setVm vm₁) (gA G 5) (gA G 0) N M (defaultValue .int) N = F at X' step
  have hTh : (T.setVm vm₁).heap = H := hT
  obtain ⟨f1, f2, -, -⟩ := Jvm.Free.Multi.fill_facts (T.setVm vm₁) (gA G 5) (gA G 0) N M (defaultValue .int) N
  rw [hF, hTh] at f1 f2
  have hold : ∀ x : Nat, x < H.size → F.heap[x]? = H[x]? := fun x hx => by
    have := Jvm.Free.Multi.fill_old (T.setVm vm₁) (gA G 5) (gA G 0) N M (defaultValue .int) (a := x) (by rw [hTh]; exact hx) N
    rw [hF, hTh] at this
    exact this
  have hrow : ∀ j : Nat, j < N → F.heap[H.size + 1 + j]? = some (arrV (gA G 0) M (fun _ => .int 0)) := fun j hj => by
    have := Jvm.Free.Multi.fill_inner (T.setVm vm₁) (gA G 5) (gA G 0) N M (defaultValue .int) N j hj
    rw [hF, hTh] at this
    rw [this, ← arrV_new]
    rfl
  rw [vr_outer] at f2
  have hRn : Rep G (fun z => if z = H.size then some (.inr (5, N, fun j => aR (some (H.size + 1 + j)))) else if H.size < z ∧ z ≤ H.size + N then some (.inr (0, M, fun _ => aI 0)) else σ z) F.heap := by
    intro z c9 hz
    simp only [] at hz
    by_cases e1 : z = H.size
    · rw [if_pos e1] at hz
      cases hz
      subst e1
      refine ⟨fun _ => Or.inr hAf, Nat.le_of_ble_eq_true rfl, by show N < 2 ^ 31; omega, Or.inl ?_⟩
      show F.heap[H.size]? = some (arrV (gA G 5) N fun j => Value.ref (H.size + 1 + j))
      rw [f2]
      refine congrArg some ?_
      unfold arrV
      refine congrArg (fun z : Array Value => ({ cls := gA G 5, slots := z, vm := .none } : Cell)) ?_
      refine congrArg Array.ofFn (funext fun j => ?_)
      show va_rf (if j.val < N then some (H.size + 1 + j.val) else none) = _
      rw [if_pos j.isLt]
      rfl
    · rw [if_neg e1] at hz
      by_cases e2 : H.size < z ∧ z ≤ H.size + N
      · rw [if_pos e2] at hz
        cases hz
        refine ⟨fun _ => Or.inr (Nat.le_trans hAf (by omega)), Nat.le_of_ble_eq_true rfl, by show M < 2 ^ 31; omega, Or.inl ?_⟩
        have := hrow (z - (H.size + 1)) (by omega)
        rw [show H.size + 1 + (z - (H.size + 1)) = z by omega] at this
        exact this
      · rw [if_neg e2] at hz
        exact (hR z c9 hz).kept (hold z (hR z c9 hz).lt)
  obtain ⟨t, a1, b1⟩ := k H.size (fun a ha => hR.fresh2 a ha) p e R s m args below meth c ls F.heap locs (cells + (1 + N)) (slots + (N + N * M)) mc ms r1 r2 r3 r4 C hl hRn ⟨by rw [f1]; have := hS.1; omega, fun x u1 u2 => (hold x (Nat.lt_of_lt_of_le u1 hS.1)).trans (hS.2.1 x u1 u2), hS.2.2⟩ (by omega) (by omega) F rfl (by first | exact X' | (rw [← Nat.add_assoc, ← Nat.add_assoc]; exact X') | (rw [Nat.add_assoc, Nat.add_assoc] at X'; exact X'))
  refine ⟨t, step t ?_, b1⟩
  have e9 : T.heap.size = H.size := by rw [hT]
  rw [e9]
  exact a1
theorem r_mmax {i : Nat} {x y : Int32} (wl : Cond.methodLink own i Lib.Math.max.name ∈ gtbl) (ws : Cond.static Lib.Math.max.name ∈ gtbl) (wi : Cond.initialized "java/lang/Math" ∈ gtbl) (wc : Cond.code Lib.Math.max.name Lib.Math.max.code 2 (some .int) ∈ gtbl) (hdp : 1 ≤ d) (hst : (st.map fun v => (av v).category).sum ≤ 8) (hd : decode cc pc = .ok (.invokestatic i, 3)) (k : Wd l G d own yy cc nL ret (pc + 3) L (aI (if x < y then y else x) :: st) σ bc bs E) : Wd l G d own yy cc nL ret pc L (aI y :: aI x :: st) σ bc bs E := by
  intro p e R s m args below meth c ls H locs cells slots mc ms r1 r2 r3 r4 C hl hR hS h1 h2
  exact va_mmax C.1 C.2.1 (C.2.2.1.trans hl.1.symm) C.2.2.2.1 (C.2.2.2.2.1 _ (List.mem_cons_of_mem _ wl)) (C.2.2.2.2.1 _ (List.mem_cons_of_mem _ ws)) (C.2.2.2.2.1 _ (List.mem_cons_of_mem _ wi)) (C.2.2.2.2.1 _ (List.mem_cons_of_mem _ wc)) (Nat.le_trans hdp r1) (by rw [List.map_map]; show (st.map fun v => (av v).category).sum + 13 ≤ R.locals; omega) (by omega) (by omega) hd (k p e R s m args below meth c ls H locs cells slots mc ms r1 r2 r3 r4 C hl hR hS h1 h2)
theorem r_mmin {i : Nat} {x y : Int32} (wl : Cond.methodLink own i Lib.Math.min.name ∈ gtbl) (ws : Cond.static Lib.Math.min.name ∈ gtbl) (wi : Cond.initialized "java/lang/Math" ∈ gtbl) (wc : Cond.code Lib.Math.min.name Lib.Math.min.code 2 (some .int) ∈ gtbl) (hdp : 1 ≤ d) (hst : (st.map fun v => (av v).category).sum ≤ 8) (hd : decode cc pc = .ok (.invokestatic i, 3)) (k : Wd l G d own yy cc nL ret (pc + 3) L (aI (if y < x then y else x) :: st) σ bc bs E) : Wd l G d own yy cc nL ret pc L (aI y :: aI x :: st) σ bc bs E := by
  intro p e R s m args below meth c ls H locs cells slots mc ms r1 r2 r3 r4 C hl hR hS h1 h2
  exact va_mmin C.1 C.2.1 (C.2.2.1.trans hl.1.symm) C.2.2.2.1 (C.2.2.2.2.1 _ (List.mem_cons_of_mem _ wl)) (C.2.2.2.2.1 _ (List.mem_cons_of_mem _ ws)) (C.2.2.2.2.1 _ (List.mem_cons_of_mem _ wi)) (C.2.2.2.2.1 _ (List.mem_cons_of_mem _ wc)) (Nat.le_trans hdp r1) (by rw [List.map_map]; show (st.map fun v => (av v).category).sum + 13 ≤ R.locals; omega) (by omega) (by omega) hd (k p e R s m args below meth c ls H locs cells slots mc ms r1 r2 r3 r4 C hl hR hS h1 h2)
theorem r_mminJ {i : Nat} {x y : Int64} (wl : Cond.methodLink own i Lib.MathLoose.min_long.x ∈ gtbl) (ws : Cond.static Lib.MathLoose.min_long.x ∈ gtbl) (wi : Cond.initialized "java/lang/Math" ∈ gtbl) (wc : Cond.code Lib.MathLoose.min_long.x Lib.MathLoose.min_long.code 4 (some .long) ∈ gtbl) (hdp : 1 ≤ d) (hst : (st.map fun v => (av v).category).sum ≤ 8) (hd : decode cc pc = .ok (.invokestatic i, 3)) (k : Wd l G d own yy cc nL ret (pc + 3) L (aJ (if y < x then y else x) :: st) σ bc bs E) : Wd l G d own yy cc nL ret pc L (aJ y :: aJ x :: st) σ bc bs E := by
  intro p e R s m args below meth c ls H locs cells slots mc ms r1 r2 r3 r4 C hl hR hS h1 h2
  exact va_mmin_long C.1 C.2.1 (C.2.2.1.trans hl.1.symm) C.2.2.2.1 (C.2.2.2.2.1 _ (List.mem_cons_of_mem _ wl)) (C.2.2.2.2.1 _ (List.mem_cons_of_mem _ ws)) (C.2.2.2.2.1 _ (List.mem_cons_of_mem _ wi)) (C.2.2.2.2.1 _ (List.mem_cons_of_mem _ wc)) (Nat.le_trans hdp r1) (by rw [List.map_map]; show (st.map fun v => (av v).category).sum + 15 ≤ R.locals; omega) (by omega) (by omega) hd (k p e R s m args below meth c ls H locs cells slots mc ms r1 r2 r3 r4 C hl hR hS h1 h2)
theorem r_ireturn {x : Int32} (hr : ret = some .int) (hd : decode cc pc = .ok (.ireturn, 1)) (hE : E = xM Q) (hq : Q (some (aI x)) σ)  : Wd l G d own yy cc nL ret pc L [aI x] σ bc bs E := by
  intro p e R s m args below meth c ls H locs cells slots mc ms r1 r2 r3 r4 C hl hR hS h1 h2
  subst hE
  refine W.widen (k := mc) (n := ms) (by omega) (by omega) ?_
  exact W.iret C.1 C.2.1 (C.2.2.2.2.2.1.trans hr) (fun t ht hW => ⟨some (aI x), σ, rfl, by rw [ht]; exact hR, hq, hS.F ht⟩) hS.2.2 hd C.2.2.2.2.2.2.1
theorem r_lreturn {x : Int64} (hr : ret = some .long) (hd : decode cc pc = .ok (.lreturn, 1)) (hE : E = xM Q) (hq : Q (some (aJ x)) σ)  : Wd l G d own yy cc nL ret pc L [aJ x] σ bc bs E := by
  intro p e R s m args below meth c ls H locs cells slots mc ms r1 r2 r3 r4 C hl hR hS h1 h2
  subst hE
  refine W.widen (k := mc) (n := ms) (by omega) (by omega) ?_
  exact W.lret C.1 C.2.1 (C.2.2.2.2.2.1.trans hr) (fun t ht hW => ⟨some (aJ x), σ, rfl, by rw [ht]; exact hR, hq, hS.F ht⟩) hS.2.2 hd C.2.2.2.2.2.2.1
theorem r_zreturn {b : Bool} (hr : ret = some .boolean) (hd : decode cc pc = .ok (.ireturn, 1)) (hE : E = xM Q) (hq : Q (some (aI (bi b))) σ)  : Wd l G d own yy cc nL ret pc L [aI (bi b)] σ bc bs E := by
  intro p e R s m args below meth c ls H locs cells slots mc ms r1 r2 r3 r4 C hl hR hS h1 h2
  subst hE
  refine W.widen (k := mc) (n := ms) (by omega) (by omega) ?_
  exact W.zret C.1 C.2.1 (C.2.2.2.2.2.1.trans hr) (narrow_bi b) (fun t ht hW => ⟨some (aI (bi b)), σ, rfl, by rw [ht]; exact hR, hq, hS.F ht⟩) hS.2.2 hd C.2.2.2.2.2.2.1
theorem r_nreturn {x : Int32} {ty : FieldType} (hr : ret = some ty) (hx : narrow ty (.int x) = .int x) (hd : decode cc pc = .ok (.ireturn, 1)) (hE : E = xM Q) (hq : Q (some (aI x)) σ)  : Wd l G d own yy cc nL ret pc L [aI x] σ bc bs E := by
  intro p e R s m args below meth c ls H locs cells slots mc ms r1 r2 r3 r4 C hl hR hS h1 h2
  subst hE
  refine W.widen (k := mc) (n := ms) (by omega) (by omega) ?_
  exact W.zret C.1 C.2.1 (C.2.2.2.2.2.1.trans hr) hx (fun t ht hW => ⟨some (aI x), σ, rfl, by rw [ht]; exact hR, hq, hS.F ht⟩) hS.2.2 hd C.2.2.2.2.2.2.1
theorem r_areturn {o : Option Nat} {rt : FieldType} (hr : ret = some rt) (hrt : (∃ n, rt = .object n) ∨ ∃ t, rt = .array t) (hd : decode cc pc = .ok (.areturn, 1)) (hE : E = xM Q) (hq : Q (some (aR o)) σ)  : Wd l G d own yy cc nL ret pc L [aR o] σ bc bs E := by
  intro p e R s m args below meth c ls H locs cells slots mc ms r1 r2 r3 r4 C hl hR hS h1 h2
  subst hE
  refine W.widen (k := mc) (n := ms) (by omega) (by omega) ?_
  exact W.aret C.1 C.2.1 (C.2.2.2.2.2.1.trans hr) hrt (by cases o with | none => exact Or.inl rfl | some a => exact Or.inr ⟨a, rfl⟩) (fun t ht hW => ⟨some (aR o), σ, rfl, by rw [ht]; exact hR, hq, hS.F ht⟩) hS.2.2 hd C.2.2.2.2.2.2.1
theorem r_return (hr : ret = none) (hd : decode cc pc = .ok (.return_, 1)) (hE : E = xM Q) (hq : Q none σ)  : Wd l G d own yy cc nL ret pc L [] σ bc bs E := by
  intro p e R s m args below meth c ls H locs cells slots mc ms r1 r2 r3 r4 C hl hR hS h1 h2
  subst hE
  refine W.widen (k := mc) (n := ms) (by omega) (by omega) ?_
  exact W.vret C.1 C.2.1 (C.2.2.2.2.2.1.trans hr) (fun t ht hW => ⟨none, σ, rfl, by rw [ht]; exact hR, hq, hS.F ht⟩) hS.2.2 hd C.2.2.2.2.2.2.1
theorem r_getsE {i : Nat} (hlk : Cond.fieldLink own i "java/util/ArrayList" "DEFAULTCAPACITY_EMPTY_ELEMENTDATA" "[Ljava/lang/Object;" ∈ gtbl) (hd : decode cc pc = .ok (.getstatic i, 3)) (k : Wd l G d own yy cc nL ret (pc + 3) L (aR (some (gE G)) :: st) σ bc bs E) : Wd l G d own yy cc nL ret pc L st σ bc bs E := by
  intro p e R s m args below meth c ls H locs cells slots mc ms r1 r2 r3 r4 C hl hR hS h1 h2
  exact va_gets C.1 C.2.1 C.2.2.2.2.2.2.2.1.2.2.2.2.1 hS C.2.2.2.1 (C.2.2.2.2.1 _ (List.mem_cons_of_mem _ hlk)) (fun x h => h) hd (k p e R s m args below meth c ls H locs cells slots mc ms r1 r2 r3 r4 C hl hR hS h1 h2)
theorem r_getsC {i : Nat} (hlk : Cond.fieldLink own i "java/lang/String" "COMPACT_STRINGS" "Z" ∈ gtbl) (hd : decode cc pc = .ok (.getstatic i, 3)) (k : Wd l G d own yy cc nL ret (pc + 3) L (aI (bi true) :: st) σ bc bs E) : Wd l G d own yy cc nL ret pc L st σ bc bs E := by
  intro p e R s m args below meth c ls H locs cells slots mc ms r1 r2 r3 r4 C hl hR hS h1 h2
  exact va_gets C.1 C.2.1 C.2.2.2.2.2.2.2.1.2.2.2.2.2.1 hS C.2.2.2.1 (C.2.2.2.2.1 _ (List.mem_cons_of_mem _ hlk)) (fun x h => h) hd (k p e R s m args below meth c ls H locs cells slots mc ms r1 r2 r3 r4 C hl hR hS h1 h2)
theorem r_objInit {i a : Nat} (w1 : Cond.methodLink own i objectInit ∈ gtbl) (w2 : Cond.instanceMethod objectInit ∈ gtbl) (w3 : Cond.code objectInit ⟨#[0xb1]⟩ 1 none ∈ gtbl) (hdp : 1 ≤ d) (hst : (st.map fun v => (av v).category).sum ≤ 8) (hd : decode cc pc = .ok (.invokespecial i, 3)) (k : Wd l G d own yy cc nL ret (pc + 3) L st σ bc bs E) : Wd l G d own yy cc nL ret pc L (aR (some a) :: st) σ bc bs E := by
  intro p e R s m args below meth c ls H locs cells slots mc ms r1 r2 r3 r4 C hl hR hS h1 h2
  exact W.objInit C.1 C.2.1 C.2.2.2.1 (C.2.2.2.2.1 _ (List.mem_cons_of_mem _ w1)) (C.2.2.2.2.1 _ (List.mem_cons_of_mem _ w2)) (C.2.2.2.2.1 _ (List.mem_cons_of_mem _ w3)) rfl (hl.1.trans C.2.2.1.symm) rfl hd (Nat.le_trans hdp r1) (by rw [List.map_map]; show 2 * 0 + (st.map fun v => (av v).category).sum + 12 ≤ R.locals; omega) (k p e R s m args below meth c ls H locs cells slots mc ms r1 r2 r3 r4 C hl hR hS h1 h2)
theorem r_invV {i : Nat} {z : MethodName} {bytes : ByteArray} {mL : Nat} {rt : Option FieldType} {As : List AV} {dz mz sz : Nat} {stk : List AV} {a t : Nat} {fs : List AV} {q0 : vw_C} (hstk : stk = As.reverse ++ aR (some a) :: st) (wl : Cond.methodLink own i z ∈ gtbl) (wi : Cond.instanceMethod z ∈ gtbl) (wsl : Cond.selects z.cls z z ∈ gtbl) (cf : Cf z bytes mL rt As.length) (hdz : dz + 1 ≤ d) (hbc : mz ≤ bc) (hbs : sz ≤ bs) (hst : (st.map fun v => (av v).category).sum ≤ 8) (hc : clz[t]? = some q0) (hcz : q0.1 = z.cls) (ha : σ a = some (.inl (t, fs))) (hd : decode cc pc = .ok (.invokevirtual i, 3)) {Q0 : Option AV → Hp → Prop} (h : Sp l G dz z bytes mL rt mz sz (aR (some a) :: As) σ Q0) (kq : ∀ r σ', Q0 r σ' → Wd l G d own yy cc nL ret (pc + 3) L (r.toList ++ st) σ' (bc - mz) (bs - sz) E)  : Wd l G d own yy cc nL ret pc L stk σ bc bs E := by
  intro p e R s m args below meth c ls H locs cells slots mc ms r1 r2 r3 r4 C hl hR hS h1 h2
  subst hstk
  obtain ⟨-, r0, g1, g2, cellB, v1, v2, v3, -⟩ := hR a _ ha
  cases g1.symm.trans hc
  have hcls := (C.2.2.2.2.2.2.2.1.1.1 t _ hc).2
  have hr : va_Run p l e R s m args below meth c H locs cells slots mz sz (F0 m pc ls ((As.reverse ++ aR (some a) :: st).map av)) (st.map av) _ (Af G) := va_runV (C := z.cls) (As := As.map av) (b := a) (own := own) (index := i) (bytes := bytes) (maxL := mL) (nL := nL) (n := As.length) (Ts := cx0 :: gtbl) ⟨C.1, C.2.1, C.2.2.1, C.2.2.2.1, C.2.2.2.2.1⟩ h ⟨⟨rfl, rfl, Nat.le_trans hdz r1, by show 8 + (mL + 11) + 40 * dz ≤ R.locals; have := cf.2.2.2.1; omega, pay_in C.2.2.2.2.1 cf.good, List.mem_cons_self, C.2.2.2.2.1 _ (List.mem_cons_of_mem _ cf.1), C.2.2.2.2.1 _ (List.mem_cons_of_mem _ cf.2.1), cf.2.2.1, fun sig h9 => cf.len h9, C.2.2.2.2.1 _ (List.mem_cons_of_mem _ wl)⟩, C.2.2.2.2.1 _ (List.mem_cons_of_mem _ wi), C.2.2.2.2.1 _ (List.mem_cons_of_mem _ wsl)⟩
    ⟨fun a U g mk q => ⟨q.1, q.2.1, Wld.same (u := U) (U := U.calling g mk a) rfl rfl q.2.2⟩, ⟨cellB, v1, by rw [v3]; rfl, by rw [v2, ← hcz]; exact hcls.1⟩, fun U hU hW => ⟨rfl, by rw [hU]; exact hR, C.2.2.2.2.2.2.2.1.go hW (by rw [hU]; exact hS.1) (fun q hq1 hq2 => by rw [hU]; exact hS.2.1 q hq1 hq2)⟩⟩ rfl (by rw [List.length_map]) hl.1 (by rw [List.map_append, List.map_reverse]; rfl) (by rw [List.map_map]; show 2 * 0 + (st.map fun v => (av v).category).sum ≤ 8; omega) hd ⟨by omega, by omega⟩
  intro T hT X
  obtain ⟨v, st₀, t, T', L9, g0, X', hL9, e1, e2, ⟨r, σ', hv, hR', hq, hF⟩, stp⟩ := hr T hT X
  cases hv
  have hF' : va_F (Af G) st₀ t := hF
  unfold va_F at hF'
  rw [g0] at hF'
  have hk := kq r σ' hq p e R s m args below meth c ls T'.heap (locs ++ L9) (cells + mz) (slots + sz) mc ms r1 r2 r3 r4 C hl (by rw [e1]; exact hR') ⟨Nat.le_trans hS.1 (by rw [e1]; exact hF'.1), fun q hq1 hq2 => by rw [e1, hF'.2 q (Nat.lt_of_lt_of_le hq1 hS.1) hq2]; exact hS.2.1 q hq1 hq2, fun q hq => by
    rcases List.mem_append.mp hq with h | h
    · exact hS.2.2 q h
    · exact hL9 q h⟩ (by omega) (by omega)
  obtain ⟨t2, a1, b1⟩ := hk T' rfl X'
  rw [List.map_append] at a1
  exact ⟨t2, stp t2 (by rw [show (r.map av).toList = r.toList.map av by cases r <;> rfl]; exact a1), b1⟩
theorem r_invK {i : Nat} {z : MethodName} {bytes : ByteArray} {mL : Nat} {rt : Option FieldType} {As : List AV} {dz mz sz : Nat} {stk : List AV} {a j : Nat} {q0 : String × Nat × String × List Nat} (hstk : stk = As.reverse ++ aR (some a) :: st) (wl : Cond.methodLink own i z ∈ gtbl) (wi : Cond.instanceMethod z ∈ gtbl) (wsl : Cond.selects z.cls z z ∈ gtbl) (cf : Cf z bytes mL rt As.length) (hdz : dz + 1 ≤ d) (hbc : mz ≤ bc) (hbs : sz ≤ bs) (hst : (st.map fun v => (av v).category).sum ≤ 8) (hcz : z.cls = "java/lang/String") (ha : a = gK G j) (hj : ssz[j]? = some q0) (hd : decode cc pc = .ok (.invokevirtual i, 3)) {Q0 : Option AV → Hp → Prop} (h : Sp l G dz z bytes mL rt mz sz (aR (some a) :: As) σ Q0) (kq : ∀ r σ', Q0 r σ' → Wd l G d own yy cc nL ret (pc + 3) L (r.toList ++ st) σ' (bc - mz) (bs - sz) E)  : Wd l G d own yy cc nL ret pc L stk σ bc bs E := by
  intro p e R s m args below meth c ls H locs cells slots mc ms r1 r2 r3 r4 C hl hR hS h1 h2
  subst hstk
  subst ha
  obtain ⟨cellB, v1, v2, v3, v4⟩ := (C.xtr.1 j _ hj).2.1
  have hr : va_Run p l e R s m args below meth c H locs cells slots mz sz (F0 m pc ls ((As.reverse ++ aR (some (gK G j)) :: st).map av)) (st.map av) _ (Af G) := va_runV (C := z.cls) (As := As.map av) (b := gK G j) (own := own) (index := i) (bytes := bytes) (maxL := mL) (nL := nL) (n := As.length) (Ts := cx0 :: gtbl) ⟨C.1, C.2.1, C.2.2.1, C.2.2.2.1, C.2.2.2.2.1⟩ h ⟨⟨rfl, rfl, Nat.le_trans hdz r1, by show 8 + (mL + 11) + 40 * dz ≤ R.locals; have := cf.2.2.2.1; omega, pay_in C.2.2.2.2.1 cf.good, List.mem_cons_self, C.2.2.2.2.1 _ (List.mem_cons_of_mem _ cf.1), C.2.2.2.2.1 _ (List.mem_cons_of_mem _ cf.2.1), cf.2.2.1, fun sig h9 => cf.len h9, C.2.2.2.2.1 _ (List.mem_cons_of_mem _ wl)⟩, C.2.2.2.2.1 _ (List.mem_cons_of_mem _ wi), C.2.2.2.2.1 _ (List.mem_cons_of_mem _ wsl)⟩
    ⟨fun a U g mk q => ⟨q.1, q.2.1, Wld.same (u := U) (U := U.calling g mk a) rfl rfl q.2.2⟩, ⟨cellB, by rw [hS.2.1 _ (Array.getElem?_eq_some_iff.mp v1).1 v4]; exact v1, v2, by rw [hcz]; exact v3⟩, fun U hU hW => ⟨rfl, by rw [hU]; exact hR, C.2.2.2.2.2.2.2.1.go hW (by rw [hU]; exact hS.1) (fun q hq1 hq2 => by rw [hU]; exact hS.2.1 q hq1 hq2)⟩⟩ rfl (by rw [List.length_map]) hl.1 (by rw [List.map_append, List.map_reverse]; rfl) (by rw [List.map_map]; show 2 * 0 + (st.map fun v => (av v).category).sum ≤ 8; omega) hd ⟨by omega, by omega⟩
  intro T hT X
  obtain ⟨v, st₀, t, T', L9, g0, X', hL9, e1, e2, ⟨r, σ', hv, hR', hq, hF⟩, stp⟩ := hr T hT X
  cases hv
  have hF' : va_F (Af G) st₀ t := hF
  unfold va_F at hF'
  rw [g0] at hF'
  have hk := kq r σ' hq p e R s m args below meth c ls T'.heap (locs ++ L9) (cells + mz) (slots + sz) mc ms r1 r2 r3 r4 C hl (by rw [e1]; exact hR') ⟨Nat.le_trans hS.1 (by rw [e1]; exact hF'.1), fun q hq1 hq2 => by rw [e1, hF'.2 q (Nat.lt_of_lt_of_le hq1 hS.1) hq2]; exact hS.2.1 q hq1 hq2, fun q hq => by
    rcases List.mem_append.mp hq with h | h
    · exact hS.2.2 q h
    · exact hL9 q h⟩ (by omega) (by omega)
  obtain ⟨t2, a1, b1⟩ := hk T' rfl X'
  rw [List.map_append] at a1
  exact ⟨t2, stp t2 (by rw [show (r.map av).toList = r.toList.map av by cases r <;> rfl]; exact a1), b1⟩
theorem r_invS {i : Nat} {z : MethodName} {bytes : ByteArray} {mL : Nat} {rt : Option FieldType} {As : List AV} {dz mz sz : Nat} {stk : List AV} (hstk : stk = As.reverse ++ st) (wl : Cond.methodLink own i z ∈ gtbl) (wi : Cond.static z ∈ gtbl) (cf : Cf z bytes mL rt As.length) (hdz : dz + 1 ≤ d) (hbc : mz ≤ bc) (hbs : sz ≤ bs) (hst : (st.map fun v => (av v).category).sum ≤ 8) (hd : decode cc pc = .ok (.invokestatic i, 3)) {Q0 : Option AV → Hp → Prop} (h : Sp l G dz z bytes mL rt mz sz As σ Q0) (kq : ∀ r σ', Q0 r σ' → Wd l G d own yy cc nL ret (pc + 3) L (r.toList ++ st) σ' (bc - mz) (bs - sz) E)  : Wd l G d own yy cc nL ret pc L stk σ bc bs E := by
  intro p e R s m args below meth c ls H locs cells slots mc ms r1 r2 r3 r4 C hl hR hS h1 h2
  subst hstk
  have hr : va_Run p l e R s m args below meth c H locs cells slots mz sz (F0 m pc ls ((As.reverse ++ st).map av)) (st.map av) _ (Af G) := va_runS (As := As.map av) (own := own) (index := i) (bytes := bytes) (maxL := mL) (nL := nL) (n := As.length) (Ts := cx0 :: gtbl) ⟨C.1, C.2.1, C.2.2.1, C.2.2.2.1, C.2.2.2.2.1⟩ h ⟨⟨rfl, rfl, Nat.le_trans hdz r1, by show 8 + (mL + 11) + 40 * dz ≤ R.locals; have := cf.2.2.2.1; omega, pay_in C.2.2.2.2.1 cf.good, List.mem_cons_self, C.2.2.2.2.1 _ (List.mem_cons_of_mem _ cf.1), C.2.2.2.2.1 _ (List.mem_cons_of_mem _ cf.2.1), cf.2.2.1, fun sig h9 => cf.len h9, C.2.2.2.2.1 _ (List.mem_cons_of_mem _ wl)⟩, C.2.2.2.2.1 _ (List.mem_cons_of_mem _ wi)⟩
    ⟨fun a U g mk q => ⟨q.1, q.2.1, Wld.same (u := U) (U := U.calling g mk a) rfl rfl q.2.2⟩, fun U hU hW => ⟨rfl, by rw [hU]; exact hR, C.2.2.2.2.2.2.2.1.go hW (by rw [hU]; exact hS.1) (fun q hq1 hq2 => by rw [hU]; exact hS.2.1 q hq1 hq2)⟩⟩ rfl (by rw [List.length_map]) hl.1 (by rw [List.map_append, List.map_reverse]) (by rw [List.map_map]; show 2 * 0 + (st.map fun v => (av v).category).sum ≤ 8; omega) hd ⟨by omega, by omega⟩
  intro T hT X
  obtain ⟨v, st₀, t, T', L9, g0, X', hL9, e1, e2, ⟨r, σ', hv, hR', hq, hF⟩, stp⟩ := hr T hT X
  cases hv
  have hF' : va_F (Af G) st₀ t := hF
  unfold va_F at hF'
  rw [g0] at hF'
  have hk := kq r σ' hq p e R s m args below meth c ls T'.heap (locs ++ L9) (cells + mz) (slots + sz) mc ms r1 r2 r3 r4 C hl (by rw [e1]; exact hR') ⟨Nat.le_trans hS.1 (by rw [e1]; exact hF'.1), fun q hq1 hq2 => by rw [e1, hF'.2 q (Nat.lt_of_lt_of_le hq1 hS.1) hq2]; exact hS.2.1 q hq1 hq2, fun q hq => by
    rcases List.mem_append.mp hq with h | h
    · exact hS.2.2 q h
    · exact hL9 q h⟩ (by omega) (by omega)
  obtain ⟨t2, a1, b1⟩ := hk T' rfl X'
  rw [List.map_append] at a1
  exact ⟨t2, stp t2 (by rw [show (r.map av).toList = r.toList.map av by cases r <;> rfl]; exact a1), b1⟩
theorem r_invI {i : Nat} {z : MethodName} {bytes : ByteArray} {mL : Nat} {rt : Option FieldType} {As : List AV} {dz mz sz : Nat} {stk : List AV} {a : Nat} (hstk : stk = As.reverse ++ aR (some a) :: st) (wl : Cond.methodLink own i z ∈ gtbl) (wi : Cond.instanceMethod z ∈ gtbl) (hz : z.name = "<init>") (hrt : rt = none) (cf : Cf z bytes mL rt As.length) (hdz : dz + 1 ≤ d) (hbc : mz ≤ bc) (hbs : sz ≤ bs) (hst : (st.map fun v => (av v).category).sum ≤ 8) (hd : decode cc pc = .ok (.invokespecial i, 3)) {Q0 : Option AV → Hp → Prop} (h : Sp l G dz z bytes mL rt mz sz (aR (some a) :: As) σ Q0) (kq : ∀ r σ', Q0 r σ' → Wd l G d own yy cc nL ret (pc + 3) L (r.toList ++ st) σ' (bc - mz) (bs - sz) E)  : Wd l G d own yy cc nL ret pc L stk σ bc bs E := by
  intro p e R s m args below meth c ls H locs cells slots mc ms r1 r2 r3 r4 C hl hR hS h1 h2
  subst hstk
  subst hrt
  have hr : va_Run p l e R s m args below meth c H locs cells slots mz sz (F0 m pc ls ((As.reverse ++ aR (some a) :: st).map av)) (st.map av) _ (Af G) := va_runI (As := As.map av) (b := a) (own := own) (index := i) (bytes := bytes) (maxL := mL) (nL := nL) (n := As.length) (Ts := cx0 :: gtbl) ⟨C.1, C.2.1, C.2.2.1, C.2.2.2.1, C.2.2.2.2.1⟩ h ⟨⟨rfl, rfl, Nat.le_trans hdz r1, by show 8 + (mL + 11) + 40 * dz ≤ R.locals; have := cf.2.2.2.1; omega, pay_in C.2.2.2.2.1 cf.good, List.mem_cons_self, C.2.2.2.2.1 _ (List.mem_cons_of_mem _ cf.1), C.2.2.2.2.1 _ (List.mem_cons_of_mem _ cf.2.1), cf.2.2.1, fun sig h9 => cf.len h9, C.2.2.2.2.1 _ (List.mem_cons_of_mem _ wl)⟩, hz, C.2.2.2.2.1 _ (List.mem_cons_of_mem _ wi)⟩
    ⟨fun a U g mk q => ⟨q.1, q.2.1, Wld.same (u := U) (U := U.calling g mk a) rfl rfl q.2.2⟩, fun U hU hW => ⟨rfl, by rw [hU]; exact hR, C.2.2.2.2.2.2.2.1.go hW (by rw [hU]; exact hS.1) (fun q hq1 hq2 => by rw [hU]; exact hS.2.1 q hq1 hq2)⟩⟩ rfl (by rw [List.length_map]) hl.1 (by rw [List.map_append, List.map_reverse]; rfl) (by rw [List.map_map]; show 2 * 0 + (st.map fun v => (av v).category).sum ≤ 8; omega) hd ⟨by omega, by omega⟩
  intro T hT X
  obtain ⟨v, st₀, t, T', L9, g0, X', hL9, e1, e2, ⟨r, σ', hv, hR', hq, hF⟩, stp⟩ := hr T hT X
  cases hv
  have hF' : va_F (Af G) st₀ t := hF
  unfold va_F at hF'
  rw [g0] at hF'
  have hk := kq r σ' hq p e R s m args below meth c ls T'.heap (locs ++ L9) (cells + mz) (slots + sz) mc ms r1 r2 r3 r4 C hl (by rw [e1]; exact hR') ⟨Nat.le_trans hS.1 (by rw [e1]; exact hF'.1), fun q hq1 hq2 => by rw [e1, hF'.2 q (Nat.lt_of_lt_of_le hq1 hS.1) hq2]; exact hS.2.1 q hq1 hq2, fun q hq => by
    rcases List.mem_append.mp hq with h | h
    · exact hS.2.2 q h
    · exact hL9 q h⟩ (by omega) (by omega)
  obtain ⟨t2, a1, b1⟩ := hk T' rfl X'
  rw [List.map_append] at a1
  exact ⟨t2, stp t2 (by rw [show (r.map av).toList = r.toList.map av by cases r <;> rfl]; exact a1), b1⟩
theorem r_invIN {i : Nat} {z : MethodName} {bytes : ByteArray} {mL : Nat} {rt : Option FieldType} {As : List AV} {dz mz sz : Nat} {stk : List AV} {a : Nat} {host : String} (hstk : stk = As.reverse ++ aR (some a) :: st) (wl : (own, i, z, host) ∈ nsz) (wi : Cond.instanceMethod z ∈ gtbl) (hz : z.name = "<init>") (hrt : rt = none) (cf : Cf z bytes mL rt As.length) (hdz : dz + 1 ≤ d) (hbc : mz ≤ bc) (hbs : sz ≤ bs) (hst : (st.map fun v => (av v).category).sum ≤ 8) (hd : decode cc pc = .ok (.invokespecial i, 3)) {Q0 : Option AV → Hp → Prop} (h : Sp l G dz z bytes mL rt mz sz (aR (some a) :: As) σ Q0) (kq : ∀ r σ', Q0 r σ' → Wd l G d own yy cc nL ret (pc + 3) L (r.toList ++ st) σ' (bc - mz) (bs - sz) E)  : Wd l G d own yy cc nL ret pc L stk σ bc bs E := by
  intro p e R s m args below meth c ls H locs cells slots mc ms r1 r2 r3 r4 C hl hR hS h1 h2
  subst hstk
  subst hrt
  have hr : va_Run p l e R s m args below meth c H locs cells slots mz sz (F0 m pc ls ((As.reverse ++ aR (some a) :: st).map av)) (st.map av) _ (Af G) := va_runIN (As := As.map av) (b := a) (own := own) (host := host) (index := i) (bytes := bytes) (maxL := mL) (nL := nL) (n := As.length) (Ts := cx0 :: gtbl) ⟨C.1, C.2.1, C.2.2.1, C.2.2.2.1, C.2.2.2.2.1⟩ h ⟨⟨⟨rfl, rfl, Nat.le_trans hdz r1, by show 8 + (mL + 11) + 40 * dz ≤ R.locals; have := cf.2.2.2.1; omega, pay_in C.2.2.2.2.1 cf.good, List.mem_cons_self⟩, C.2.2.2.2.1 _ (List.mem_cons_of_mem _ cf.1), C.2.2.2.2.1 _ (List.mem_cons_of_mem _ cf.2.1), cf.2.2.1, fun sig h9 => cf.len h9, va_Nw.use rfl (C.2.2.2.2.2.2.2.1.2.2.2.1 _ wl)⟩, hz, C.2.2.2.2.1 _ (List.mem_cons_of_mem _ wi)⟩
    ⟨fun a U g mk q => ⟨q.1, q.2.1, Wld.same (u := U) (U := U.calling g mk a) rfl rfl q.2.2⟩, fun U hU hW => ⟨rfl, by rw [hU]; exact hR, C.2.2.2.2.2.2.2.1.go hW (by rw [hU]; exact hS.1) (fun q hq1 hq2 => by rw [hU]; exact hS.2.1 q hq1 hq2)⟩⟩ rfl (by rw [List.length_map]) hl.1 (by rw [List.map_append, List.map_reverse]; rfl) (by rw [List.map_map]; show 2 * 0 + (st.map fun v => (av v).category).sum ≤ 8; omega) hd ⟨by omega, by omega⟩
  intro T hT X
  obtain ⟨v, st₀, t, T', L9, g0, X', hL9, e1, e2, ⟨r, σ', hv, hR', hq, hF⟩, stp⟩ := hr T hT X
  cases hv
  have hF' : va_F (Af G) st₀ t := hF
  unfold va_F at hF'
  rw [g0] at hF'
  have hk := kq r σ' hq p e R s m args below meth c ls T'.heap (locs ++ L9) (cells + mz) (slots + sz) mc ms r1 r2 r3 r4 C hl (by rw [e1]; exact hR') ⟨Nat.le_trans hS.1 (by rw [e1]; exact hF'.1), fun q hq1 hq2 => by rw [e1, hF'.2 q (Nat.lt_of_lt_of_le hq1 hS.1) hq2]; exact hS.2.1 q hq1 hq2, fun q hq => by
    rcases List.mem_append.mp hq with h | h
    · exact hS.2.2 q h
    · exact hL9 q h⟩ (by omega) (by omega)
  obtain ⟨t2, a1, b1⟩ := hk T' rfl X'
  rw [List.map_append] at a1
  exact ⟨t2, stp t2 (by rw [show (r.map av).toList = r.toList.map av by cases r <;> rfl]; exact a1), b1⟩
theorem r_invVI {i : Nat} {z : MethodName} {bytes : ByteArray} {mL : Nat} {rt : Option FieldType} {As : List AV} {dz mz sz : Nat} {stk : List AV} {a t : Nat} {fs : List AV} {q0 : vw_C} (hstk : stk = As.reverse ++ aR (some a) :: st) (wl : Cond.methodLink own i z ∈ gtbl) (wi : Cond.instanceMethod z ∈ gtbl) (wsl : Cond.selects z.cls z z ∈ gtbl) (cf : Cf z bytes mL rt As.length) (hdz : dz + 1 ≤ d) (hbc : mz ≤ bc) (hbs : sz ≤ bs) (hst : (st.map fun v => (av v).category).sum ≤ 8) (hc : clz[t]? = some q0) (hcz : q0.1 = z.cls) (ha : σ a = some (.inl (t, fs))) (hd : decode cc pc = .ok (.invokevirtual i, 3)) {K : Int32 → Hp → Prop} (h : Sp l G dz z bytes mL rt mz sz (aR (some a) :: As) σ (QI K)) (k : ∀ v σ', K v σ' → Wd l G d own yy cc nL ret (pc + 3) L (aI v :: st) σ' (bc - mz) (bs - sz) E) : Wd l G d own yy cc nL ret pc L stk σ bc bs E := r_invV hstk wl wi wsl cf hdz hbc hbs hst hc hcz ha hd h (fun r σ' hq => by
  obtain ⟨v, rfl, hk⟩ := hq
  exact k v σ' hk)
theorem r_invVZ {i : Nat} {z : MethodName} {bytes : ByteArray} {mL : Nat} {rt : Option FieldType} {As : List AV} {dz mz sz : Nat} {stk : List AV} {a t : Nat} {fs : List AV} {q0 : vw_C} (hstk : stk = As.reverse ++ aR (some a) :: st) (wl : Cond.methodLink own i z ∈ gtbl) (wi : Cond.instanceMethod z ∈ gtbl) (wsl : Cond.selects z.cls z z ∈ gtbl) (cf : Cf z bytes mL rt As.length) (hdz : dz + 1 ≤ d) (hbc : mz ≤ bc) (hbs : sz ≤ bs) (hst : (st.map fun v => (av v).category).sum ≤ 8) (hc : clz[t]? = some q0) (hcz : q0.1 = z.cls) (ha : σ a = some (.inl (t, fs))) (hd : decode cc pc = .ok (.invokevirtual i, 3)) {K : Bool → Hp → Prop} (h : Sp l G dz z bytes mL rt mz sz (aR (some a) :: As) σ (QZ K)) (k : ∀ v σ', K v σ' → Wd l G d own yy cc nL ret (pc + 3) L (aI (bi v) :: st) σ' (bc - mz) (bs - sz) E) : Wd l G d own yy cc nL ret pc L stk σ bc bs E := r_invV hstk wl wi wsl cf hdz hbc hbs hst hc hcz ha hd h (fun r σ' hq => by
  obtain ⟨v, rfl, hk⟩ := hq
  exact k v σ' hk)
theorem r_invVJ {i : Nat} {z : MethodName} {bytes : ByteArray} {mL : Nat} {rt : Option FieldType} {As : List AV} {dz mz sz : Nat} {stk : List AV} {a t : Nat} {fs : List AV} {q0 : vw_C} (hstk : stk = As.reverse ++ aR (some a) :: st) (wl : Cond.methodLink own i z ∈ gtbl) (wi : Cond.instanceMethod z ∈ gtbl) (wsl : Cond.selects z.cls z z ∈ gtbl) (cf : Cf z bytes mL rt As.length) (hdz : dz + 1 ≤ d) (hbc : mz ≤ bc) (hbs : sz ≤ bs) (hst : (st.map fun v => (av v).category).sum ≤ 8) (hc : clz[t]? = some q0) (hcz : q0.1 = z.cls) (ha : σ a = some (.inl (t, fs))) (hd : decode cc pc = .ok (.invokevirtual i, 3)) {K : Int64 → Hp → Prop} (h : Sp l G dz z bytes mL rt mz sz (aR (some a) :: As) σ (QJ K)) (k : ∀ v σ', K v σ' → Wd l G d own yy cc nL ret (pc + 3) L (aJ v :: st) σ' (bc - mz) (bs - sz) E) : Wd l G d own yy cc nL ret pc L stk σ bc bs E := r_invV hstk wl wi wsl cf hdz hbc hbs hst hc hcz ha hd h (fun r σ' hq => by
  obtain ⟨v, rfl, hk⟩ := hq
  exact k v σ' hk)
theorem r_invVR {i : Nat} {z : MethodName} {bytes : ByteArray} {mL : Nat} {rt : Option FieldType} {As : List AV} {dz mz sz : Nat} {stk : List AV} {a t : Nat} {fs : List AV} {q0 : vw_C} (hstk : stk = As.reverse ++ aR (some a) :: st) (wl : Cond.methodLink own i z ∈ gtbl) (wi : Cond.instanceMethod z ∈ gtbl) (wsl : Cond.selects z.cls z z ∈ gtbl) (cf : Cf z bytes mL rt As.length) (hdz : dz + 1 ≤ d) (hbc : mz ≤ bc) (hbs : sz ≤ bs) (hst : (st.map fun v => (av v).category).sum ≤ 8) (hc : clz[t]? = some q0) (hcz : q0.1 = z.cls) (ha : σ a = some (.inl (t, fs))) (hd : decode cc pc = .ok (.invokevirtual i, 3)) {K : Option Nat → Hp → Prop} (h : Sp l G dz z bytes mL rt mz sz (aR (some a) :: As) σ (QR K)) (k : ∀ v σ', K v σ' → Wd l G d own yy cc nL ret (pc + 3) L (aR v :: st) σ' (bc - mz) (bs - sz) E) : Wd l G d own yy cc nL ret pc L stk σ bc bs E := r_invV hstk wl wi wsl cf hdz hbc hbs hst hc hcz ha hd h (fun r σ' hq => by
  obtain ⟨v, rfl, hk⟩ := hq
  exact k v σ' hk)
theorem r_invVN {i : Nat} {z : MethodName} {bytes : ByteArray} {mL : Nat} {rt : Option FieldType} {As : List AV} {dz mz sz : Nat} {stk : List AV} {a t : Nat} {fs : List AV} {q0 : vw_C} (hstk : stk = As.reverse ++ aR (some a) :: st) (wl : Cond.methodLink own i z ∈ gtbl) (wi : Cond.instanceMethod z ∈ gtbl) (wsl : Cond.selects z.cls z z ∈ gtbl) (cf : Cf z bytes mL rt As.length) (hdz : dz + 1 ≤ d) (hbc : mz ≤ bc) (hbs : sz ≤ bs) (hst : (st.map fun v => (av v).category).sum ≤ 8) (hc : clz[t]? = some q0) (hcz : q0.1 = z.cls) (ha : σ a = some (.inl (t, fs))) (hd : decode cc pc = .ok (.invokevirtual i, 3)) {K : Nat → Hp → Prop} (h : Sp l G dz z bytes mL rt mz sz (aR (some a) :: As) σ (QN K)) (k : ∀ v σ', K v σ' → Wd l G d own yy cc nL ret (pc + 3) L (aR (some v) :: st) σ' (bc - mz) (bs - sz) E) : Wd l G d own yy cc nL ret pc L stk σ bc bs E := r_invV hstk wl wi wsl cf hdz hbc hbs hst hc hcz ha hd h (fun r σ' hq => by
  obtain ⟨v, rfl, hk⟩ := hq
  exact k v σ' hk)
theorem r_invVU {i : Nat} {z : MethodName} {bytes : ByteArray} {mL : Nat} {rt : Option FieldType} {As : List AV} {dz mz sz : Nat} {stk : List AV} {a t : Nat} {fs : List AV} {q0 : vw_C} (hstk : stk = As.reverse ++ aR (some a) :: st) (wl : Cond.methodLink own i z ∈ gtbl) (wi : Cond.instanceMethod z ∈ gtbl) (wsl : Cond.selects z.cls z z ∈ gtbl) (cf : Cf z bytes mL rt As.length) (hdz : dz + 1 ≤ d) (hbc : mz ≤ bc) (hbs : sz ≤ bs) (hst : (st.map fun v => (av v).category).sum ≤ 8) (hc : clz[t]? = some q0) (hcz : q0.1 = z.cls) (ha : σ a = some (.inl (t, fs))) (hd : decode cc pc = .ok (.invokevirtual i, 3)) {K : Hp → Prop} (h : Sp l G dz z bytes mL rt mz sz (aR (some a) :: As) σ (QV K)) (k : ∀ σ', K σ' → Wd l G d own yy cc nL ret (pc + 3) L st σ' (bc - mz) (bs - sz) E) : Wd l G d own yy cc nL ret pc L stk σ bc bs E := r_invV hstk wl wi wsl cf hdz hbc hbs hst hc hcz ha hd h (fun r σ' hq => by
  obtain ⟨rfl, hk⟩ := hq
  exact k σ' hk)
theorem r_invSI {i : Nat} {z : MethodName} {bytes : ByteArray} {mL : Nat} {rt : Option FieldType} {As : List AV} {dz mz sz : Nat} {stk : List AV} (hstk : stk = As.reverse ++ st) (wl : Cond.methodLink own i z ∈ gtbl) (wi : Cond.static z ∈ gtbl) (cf : Cf z bytes mL rt As.length) (hdz : dz + 1 ≤ d) (hbc : mz ≤ bc) (hbs : sz ≤ bs) (hst : (st.map fun v => (av v).category).sum ≤ 8) (hd : decode cc pc = .ok (.invokestatic i, 3)) {K : Int32 → Hp → Prop} (h : Sp l G dz z bytes mL rt mz sz As σ (QI K)) (k : ∀ v σ', K v σ' → Wd l G d own yy cc nL ret (pc + 3) L (aI v :: st) σ' (bc - mz) (bs - sz) E) : Wd l G d own yy cc nL ret pc L stk σ bc bs E := r_invS hstk wl wi cf hdz hbc hbs hst hd h (fun r σ' hq => by
  obtain ⟨v, rfl, hk⟩ := hq
  exact k v σ' hk)
theorem r_invSZ {i : Nat} {z : MethodName} {bytes : ByteArray} {mL : Nat} {rt : Option FieldType} {As : List AV} {dz mz sz : Nat} {stk : List AV} (hstk : stk = As.reverse ++ st) (wl : Cond.methodLink own i z ∈ gtbl) (wi : Cond.static z ∈ gtbl) (cf : Cf z bytes mL rt As.length) (hdz : dz + 1 ≤ d) (hbc : mz ≤ bc) (hbs : sz ≤ bs) (hst : (st.map fun v => (av v).category).sum ≤ 8) (hd : decode cc pc = .ok (.invokestatic i, 3)) {K : Bool → Hp → Prop} (h : Sp l G dz z bytes mL rt mz sz As σ (QZ K)) (k : ∀ v σ', K v σ' → Wd l G d own yy cc nL ret (pc + 3) L (aI (bi v) :: st) σ' (bc - mz) (bs - sz) E) : Wd l G d own yy cc nL ret pc L stk σ bc bs E := r_invS hstk wl wi cf hdz hbc hbs hst hd h (fun r σ' hq => by
  obtain ⟨v, rfl, hk⟩ := hq
  exact k v σ' hk)
theorem r_invSJ {i : Nat} {z : MethodName} {bytes : ByteArray} {mL : Nat} {rt : Option FieldType} {As : List AV} {dz mz sz : Nat} {stk : List AV} (hstk : stk = As.reverse ++ st) (wl : Cond.methodLink own i z ∈ gtbl) (wi : Cond.static z ∈ gtbl) (cf : Cf z bytes mL rt As.length) (hdz : dz + 1 ≤ d) (hbc : mz ≤ bc) (hbs : sz ≤ bs) (hst : (st.map fun v => (av v).category).sum ≤ 8) (hd : decode cc pc = .ok (.invokestatic i, 3)) {K : Int64 → Hp → Prop} (h : Sp l G dz z bytes mL rt mz sz As σ (QJ K)) (k : ∀ v σ', K v σ' → Wd l G d own yy cc nL ret (pc + 3) L (aJ v :: st) σ' (bc - mz) (bs - sz) E) : Wd l G d own yy cc nL ret pc L stk σ bc bs E := r_invS hstk wl wi cf hdz hbc hbs hst hd h (fun r σ' hq => by
  obtain ⟨v, rfl, hk⟩ := hq
  exact k v σ' hk)
theorem r_invSR {i : Nat} {z : MethodName} {bytes : ByteArray} {mL : Nat} {rt : Option FieldType} {As : List AV} {dz mz sz : Nat} {stk : List AV} (hstk : stk = As.reverse ++ st) (wl : Cond.methodLink own i z ∈ gtbl) (wi : Cond.static z ∈ gtbl) (cf : Cf z bytes mL rt As.length) (hdz : dz + 1 ≤ d) (hbc : mz ≤ bc) (hbs : sz ≤ bs) (hst : (st.map fun v => (av v).category).sum ≤ 8) (hd : decode cc pc = .ok (.invokestatic i, 3)) {K : Option Nat → Hp → Prop} (h : Sp l G dz z bytes mL rt mz sz As σ (QR K)) (k : ∀ v σ', K v σ' → Wd l G d own yy cc nL ret (pc + 3) L (aR v :: st) σ' (bc - mz) (bs - sz) E) : Wd l G d own yy cc nL ret pc L stk σ bc bs E := r_invS hstk wl wi cf hdz hbc hbs hst hd h (fun r σ' hq => by
  obtain ⟨v, rfl, hk⟩ := hq
  exact k v σ' hk)
theorem r_invSN {i : Nat} {z : MethodName} {bytes : ByteArray} {mL : Nat} {rt : Option FieldType} {As : List AV} {dz mz sz : Nat} {stk : List AV} (hstk : stk = As.reverse ++ st) (wl : Cond.methodLink own i z ∈ gtbl) (wi : Cond.static z ∈ gtbl) (cf : Cf z bytes mL rt As.length) (hdz : dz + 1 ≤ d) (hbc : mz ≤ bc) (hbs : sz ≤ bs) (hst : (st.map fun v => (av v).category).sum ≤ 8) (hd : decode cc pc = .ok (.invokestatic i, 3)) {K : Nat → Hp → Prop} (h : Sp l G dz z bytes mL rt mz sz As σ (QN K)) (k : ∀ v σ', K v σ' → Wd l G d own yy cc nL ret (pc + 3) L (aR (some v) :: st) σ' (bc - mz) (bs - sz) E) : Wd l G d own yy cc nL ret pc L stk σ bc bs E := r_invS hstk wl wi cf hdz hbc hbs hst hd h (fun r σ' hq => by
  obtain ⟨v, rfl, hk⟩ := hq
  exact k v σ' hk)
theorem r_invSU {i : Nat} {z : MethodName} {bytes : ByteArray} {mL : Nat} {rt : Option FieldType} {As : List AV} {dz mz sz : Nat} {stk : List AV} (hstk : stk = As.reverse ++ st) (wl : Cond.methodLink own i z ∈ gtbl) (wi : Cond.static z ∈ gtbl) (cf : Cf z bytes mL rt As.length) (hdz : dz + 1 ≤ d) (hbc : mz ≤ bc) (hbs : sz ≤ bs) (hst : (st.map fun v => (av v).category).sum ≤ 8) (hd : decode cc pc = .ok (.invokestatic i, 3)) {K : Hp → Prop} (h : Sp l G dz z bytes mL rt mz sz As σ (QV K)) (k : ∀ σ', K σ' → Wd l G d own yy cc nL ret (pc + 3) L st σ' (bc - mz) (bs - sz) E) : Wd l G d own yy cc nL ret pc L stk σ bc bs E := r_invS hstk wl wi cf hdz hbc hbs hst hd h (fun r σ' hq => by
  obtain ⟨rfl, hk⟩ := hq
  exact k σ' hk)
theorem r_invKI {i : Nat} {z : MethodName} {bytes : ByteArray} {mL : Nat} {rt : Option FieldType} {As : List AV} {dz mz sz : Nat} {stk : List AV} {a j : Nat} {q0 : String × Nat × String × List Nat} (hstk : stk = As.reverse ++ aR (some a) :: st) (wl : Cond.methodLink own i z ∈ gtbl) (wi : Cond.instanceMethod z ∈ gtbl) (wsl : Cond.selects z.cls z z ∈ gtbl) (cf : Cf z bytes mL rt As.length) (hdz : dz + 1 ≤ d) (hbc : mz ≤ bc) (hbs : sz ≤ bs) (hst : (st.map fun v => (av v).category).sum ≤ 8) (hcz : z.cls = "java/lang/String") (ha : a = gK G j) (hj : ssz[j]? = some q0) (hd : decode cc pc = .ok (.invokevirtual i, 3)) {K : Int32 → Hp → Prop} (h : Sp l G dz z bytes mL rt mz sz (aR (some a) :: As) σ (QI K)) (k : ∀ v σ', K v σ' → Wd l G d own yy cc nL ret (pc + 3) L (aI v :: st) σ' (bc - mz) (bs - sz) E) : Wd l G d own yy cc nL ret pc L stk σ bc bs E := r_invK hstk wl wi wsl cf hdz hbc hbs hst hcz ha hj hd h (fun r σ' hq => by
  obtain ⟨v, rfl, hk⟩ := hq
  exact k v σ' hk)
theorem r_invKZ {i : Nat} {z : MethodName} {bytes : ByteArray} {mL : Nat} {rt : Option FieldType} {As : List AV} {dz mz sz : Nat} {stk : List AV} {a j : Nat} {q0 : String × Nat × String × List Nat} (hstk : stk = As.reverse ++ aR (some a) :: st) (wl : Cond.methodLink own i z ∈ gtbl) (wi : Cond.instanceMethod z ∈ gtbl) (wsl : Cond.selects z.cls z z ∈ gtbl) (cf : Cf z bytes mL rt As.length) (hdz : dz + 1 ≤ d) (hbc : mz ≤ bc) (hbs : sz ≤ bs) (hst : (st.map fun v => (av v).category).sum ≤ 8) (hcz : z.cls = "java/lang/String") (ha : a = gK G j) (hj : ssz[j]? = some q0) (hd : decode cc pc = .ok (.invokevirtual i, 3)) {K : Bool → Hp → Prop} (h : Sp l G dz z bytes mL rt mz sz (aR (some a) :: As) σ (QZ K)) (k : ∀ v σ', K v σ' → Wd l G d own yy cc nL ret (pc + 3) L (aI (bi v) :: st) σ' (bc - mz) (bs - sz) E) : Wd l G d own yy cc nL ret pc L stk σ bc bs E := r_invK hstk wl wi wsl cf hdz hbc hbs hst hcz ha hj hd h (fun r σ' hq => by
  obtain ⟨v, rfl, hk⟩ := hq
  exact k v σ' hk)
theorem r_invKJ {i : Nat} {z : MethodName} {bytes : ByteArray} {mL : Nat} {rt : Option FieldType} {As : List AV} {dz mz sz : Nat} {stk : List AV} {a j : Nat} {q0 : String × Nat × String × List Nat} (hstk : stk = As.reverse ++ aR (some a) :: st) (wl : Cond.methodLink own i z ∈ gtbl) (wi : Cond.instanceMethod z ∈ gtbl) (wsl : Cond.selects z.cls z z ∈ gtbl) (cf : Cf z bytes mL rt As.length) (hdz : dz + 1 ≤ d) (hbc : mz ≤ bc) (hbs : sz ≤ bs) (hst : (st.map fun v => (av v).category).sum ≤ 8) (hcz : z.cls = "java/lang/String") (ha : a = gK G j) (hj : ssz[j]? = some q0) (hd : decode cc pc = .ok (.invokevirtual i, 3)) {K : Int64 → Hp → Prop} (h : Sp l G dz z bytes mL rt mz sz (aR (some a) :: As) σ (QJ K)) (k : ∀ v σ', K v σ' → Wd l G d own yy cc nL ret (pc + 3) L (aJ v :: st) σ' (bc - mz) (bs - sz) E) : Wd l G d own yy cc nL ret pc L stk σ bc bs E := r_invK hstk wl wi wsl cf hdz hbc hbs hst hcz ha hj hd h (fun r σ' hq => by
  obtain ⟨v, rfl, hk⟩ := hq
  exact k v σ' hk)
theorem r_invKR {i : Nat} {z : MethodName} {bytes : ByteArray} {mL : Nat} {rt : Option FieldType} {As : List AV} {dz mz sz : Nat} {stk : List AV} {a j : Nat} {q0 : String × Nat × String × List Nat} (hstk : stk = As.reverse ++ aR (some a) :: st) (wl : Cond.methodLink own i z ∈ gtbl) (wi : Cond.instanceMethod z ∈ gtbl) (wsl : Cond.selects z.cls z z ∈ gtbl) (cf : Cf z bytes mL rt As.length) (hdz : dz + 1 ≤ d) (hbc : mz ≤ bc) (hbs : sz ≤ bs) (hst : (st.map fun v => (av v).category).sum ≤ 8) (hcz : z.cls = "java/lang/String") (ha : a = gK G j) (hj : ssz[j]? = some q0) (hd : decode cc pc = .ok (.invokevirtual i, 3)) {K : Option Nat → Hp → Prop} (h : Sp l G dz z bytes mL rt mz sz (aR (some a) :: As) σ (QR K)) (k : ∀ v σ', K v σ' → Wd l G d own yy cc nL ret (pc + 3) L (aR v :: st) σ' (bc - mz) (bs - sz) E) : Wd l G d own yy cc nL ret pc L stk σ bc bs E := r_invK hstk wl wi wsl cf hdz hbc hbs hst hcz ha hj hd h (fun r σ' hq => by
  obtain ⟨v, rfl, hk⟩ := hq
  exact k v σ' hk)
theorem r_invKN {i : Nat} {z : MethodName} {bytes : ByteArray} {mL : Nat} {rt : Option FieldType} {As : List AV} {dz mz sz : Nat} {stk : List AV} {a j : Nat} {q0 : String × Nat × String × List Nat} (hstk : stk = As.reverse ++ aR (some a) :: st) (wl : Cond.methodLink own i z ∈ gtbl) (wi : Cond.instanceMethod z ∈ gtbl) (wsl : Cond.selects z.cls z z ∈ gtbl) (cf : Cf z bytes mL rt As.length) (hdz : dz + 1 ≤ d) (hbc : mz ≤ bc) (hbs : sz ≤ bs) (hst : (st.map fun v => (av v).category).sum ≤ 8) (hcz : z.cls = "java/lang/String") (ha : a = gK G j) (hj : ssz[j]? = some q0) (hd : decode cc pc = .ok (.invokevirtual i, 3)) {K : Nat → Hp → Prop} (h : Sp l G dz z bytes mL rt mz sz (aR (some a) :: As) σ (QN K)) (k : ∀ v σ', K v σ' → Wd l G d own yy cc nL ret (pc + 3) L (aR (some v) :: st) σ' (bc - mz) (bs - sz) E) : Wd l G d own yy cc nL ret pc L stk σ bc bs E := r_invK hstk wl wi wsl cf hdz hbc hbs hst hcz ha hj hd h (fun r σ' hq => by
  obtain ⟨v, rfl, hk⟩ := hq
  exact k v σ' hk)
theorem r_invKU {i : Nat} {z : MethodName} {bytes : ByteArray} {mL : Nat} {rt : Option FieldType} {As : List AV} {dz mz sz : Nat} {stk : List AV} {a j : Nat} {q0 : String × Nat × String × List Nat} (hstk : stk = As.reverse ++ aR (some a) :: st) (wl : Cond.methodLink own i z ∈ gtbl) (wi : Cond.instanceMethod z ∈ gtbl) (wsl : Cond.selects z.cls z z ∈ gtbl) (cf : Cf z bytes mL rt As.length) (hdz : dz + 1 ≤ d) (hbc : mz ≤ bc) (hbs : sz ≤ bs) (hst : (st.map fun v => (av v).category).sum ≤ 8) (hcz : z.cls = "java/lang/String") (ha : a = gK G j) (hj : ssz[j]? = some q0) (hd : decode cc pc = .ok (.invokevirtual i, 3)) {K : Hp → Prop} (h : Sp l G dz z bytes mL rt mz sz (aR (some a) :: As) σ (QV K)) (k : ∀ σ', K σ' → Wd l G d own yy cc nL ret (pc + 3) L st σ' (bc - mz) (bs - sz) E) : Wd l G d own yy cc nL ret pc L stk σ bc bs E := r_invK hstk wl wi wsl cf hdz hbc hbs hst hcz ha hj hd h (fun r σ' hq => by
  obtain ⟨rfl, hk⟩ := hq
  exact k σ' hk)
theorem r_invIU {i : Nat} {z : MethodName} {bytes : ByteArray} {mL : Nat} {rt : Option FieldType} {As : List AV} {dz mz sz : Nat} {stk : List AV} {a : Nat} (hstk : stk = As.reverse ++ aR (some a) :: st) (wl : Cond.methodLink own i z ∈ gtbl) (wi : Cond.instanceMethod z ∈ gtbl) (hz : z.name = "<init>") (hrt : rt = none) (cf : Cf z bytes mL rt As.length) (hdz : dz + 1 ≤ d) (hbc : mz ≤ bc) (hbs : sz ≤ bs) (hst : (st.map fun v => (av v).category).sum ≤ 8) (hd : decode cc pc = .ok (.invokespecial i, 3)) {K : Hp → Prop} (h : Sp l G dz z bytes mL rt mz sz (aR (some a) :: As) σ (QV K)) (k : ∀ σ', K σ' → Wd l G d own yy cc nL ret (pc + 3) L st σ' (bc - mz) (bs - sz) E) : Wd l G d own yy cc nL ret pc L stk σ bc bs E := r_invI hstk wl wi hz hrt cf hdz hbc hbs hst hd h (fun r σ' hq => by
  obtain ⟨rfl, hk⟩ := hq
  exact k σ' hk)
theorem r_invINU {i : Nat} {z : MethodName} {bytes : ByteArray} {mL : Nat} {rt : Option FieldType} {As : List AV} {dz mz sz : Nat} {stk : List AV} {a : Nat} {host : String} (hstk : stk = As.reverse ++ aR (some a) :: st) (wl : (own, i, z, host) ∈ nsz) (wi : Cond.instanceMethod z ∈ gtbl) (hz : z.name = "<init>") (hrt : rt = none) (cf : Cf z bytes mL rt As.length) (hdz : dz + 1 ≤ d) (hbc : mz ≤ bc) (hbs : sz ≤ bs) (hst : (st.map fun v => (av v).category).sum ≤ 8) (hd : decode cc pc = .ok (.invokespecial i, 3)) {K : Hp → Prop} (h : Sp l G dz z bytes mL rt mz sz (aR (some a) :: As) σ (QV K)) (k : ∀ σ', K σ' → Wd l G d own yy cc nL ret (pc + 3) L st σ' (bc - mz) (bs - sz) E) : Wd l G d own yy cc nL ret pc L stk σ bc bs E := r_invIN hstk wl wi hz hrt cf hdz hbc hbs hst hd h (fun r σ' hq => by
  obtain ⟨rfl, hk⟩ := hq
  exact k σ' hk)
/-- from the body's walk to the contract -/
def az_args : Nat → List AV → List (Nat × AV)
  | _, [] => []
  | i, v :: vs => (i, v) :: az_args (if isJ v then i + 2 else i + 1) vs
theorem az_args_map : ∀ (as : List AV) (i : Nat), (az_args i as).map (fun q => (q.1, av q.2)) = lv_args i (as.map av)
  | [], _ => rfl
  | v :: vs, i => by
    simp only [az_args, List.map_cons, lv_args]
    rw [az_args_map vs]
    have h := av_cat2 v
    cases hv : isJ v with
    | true =>
      rw [hv] at h
      simp [beq_iff_eq.mp h]
    | false =>
      rw [hv] at h
      simp [beq_eq_false_iff_ne.mp h]
theorem Sp.of {mc ms : Nat} {as : List AV} (hy : plainName yy.cls = true) (hL0 : (as.map wz).sum ≤ nL)
    (k : Wd l G d own yy cc nL ret 0 (az_args 0 as) [] σ mc ms (xM Q)) (hown : own = yy.cls) : Sp l G d yy cc nL ret mc ms as σ Q := by
  have hL : (lg_sl (as.map av)).length ≤ nL := by rw [lgl]; exact hL0
  refine Met.ofW (cc := cc) (maxL := nL) (ret := ret) hy rfl ?_
  intro p e s m args below meth c s₁ B hml hv
  obtain ⟨rfl, hR, hW⟩ := hv
  have hts := atoms_spec B.pre
  rw [lg_entry_eq]
  have hl := lv_entry (as.map av) (n := nL) hL
  rw [← az_args_map] at hl
  subst hown
  exact k p e (rmz d mc ms) s m _ below meth c _ s.heap [] 0 0 mc ms (Nat.le_refl _) (Nat.le_refl _) (Nat.le_refl _) (Nat.le_refl _) ⟨B.exec, B.bytes, hml, findClass_of_methodNamed B.named, (fun w hw => (List.mem_cons.mp hw).elim (fun e => hts w (List.mem_cons_of_mem _ (e ▸ cx0_in))) (fun h => hts w (List.mem_cons_of_mem _ h))), B.returns, B.notSynchronized, hW, (name_of_methodNamed B.named B.method).1⟩ hl hR va_S.rf (by omega) (by omega)
end RZ
