/-! THE BASE: an abstract heap, contracts over it ('Sp'), the machine at an instruction over it ('Wd') -/
/-- a value: an int, a long, a reference -/
abbrev AV : Type := Int32 ⊕ Int64 ⊕ Option Nat
abbrev aI (x : Int32) : AV := .inl x
abbrev aJ (x : Int64) : AV := .inr (.inl x)
abbrev aR (o : Option Nat) : AV := .inr (.inr o)
def av : AV → Value
  | .inl x => .int x
  | .inr (.inl x) => .long x
  | .inr (.inr o) => va_rf o
def isJ : AV → Bool
  | .inr (.inl _) => true
  | _ => false
def bi (b : Bool) : Int32 := if b then 1 else 0
/-- a cell: an object (number of its class, fields) or an array (number of its kind, length, contents) -/
abbrev CE : Type := (Nat × List AV) ⊕ (Nat × Nat × (Nat → AV))
abbrev Hp : Type := Nat → Option CE
def hset (σ : Hp) (a : Nat) (c : CE) : Hp := fun q => if q = a then some c else σ q
theorem hset_eq (σ : Hp) (a : Nat) (c : CE) : hset σ a c a = some c := by simp [hset]
theorem hset_ne {σ : Hp} {a q : Nat} {c : CE} (h : q ≠ a) : hset σ a c q = σ q := by simp [hset, h]
/-- what a run's start fixes: class ids, slots, array class ids, the heap at the start, String constants, their bytes, ArrayList's empty array, a mirror -/
abbrev GG : Type := (Nat → ClassId) × (Nat → Nat → Nat) × (Nat → ClassId) × Heap × (Nat → Nat) × (Nat → Nat) × Nat × Nat
abbrev gC (G : GG) : Nat → ClassId := G.1
abbrev gS (G : GG) : Nat → Nat → Nat := G.2.1
abbrev gA (G : GG) : Nat → ClassId := G.2.2.1
abbrev gH (G : GG) : Heap := G.2.2.2.1
abbrev gK (G : GG) : Nat → Nat := G.2.2.2.2.1
abbrev gV (G : GG) : Nat → Nat := G.2.2.2.2.2.1
abbrev gE (G : GG) : Nat := G.2.2.2.2.2.2.1
abbrev gM (G : GG) : Nat := G.2.2.2.2.2.2.2
def clz : List vw_C := [(RX0, TX0, 5), (RX1, TX1, 4), (RX2, TX2, 9), (RX3, TX3, 11), (RX4, TX4, 5), (RX5, TX5, 7), (RX6, TX6, 1), (RX7, TX7, 5), (RX8, TX8, 9), (RX9, TX9, 8), (RX10, TX10, 5), (RX11, TX11, 12), (RX12, TX12, 42), (RJx4a65c, TJx4a65c, 3)]
def akz : List FieldType := [.int, .boolean, .long, .object "CoinsLaid$Lay", .object "CoinsLaid$Laid", .array .int, .object "java/lang/Object", .int]
def Af (G : GG) : Nat → Prop := fun q => (gH G).size ≤ q
/-- an array's cell; one that was there before the run: the script (kind 7), ArrayList's empty one (of length 0) -/
def CRa (G : GG) (k N : Nat) (f : Nat → AV) (a : Nat) (H : Heap) : Prop := H[a]? = some (arrV (gA G k) N (fun j => av (f j))) ∨ ∃ cell : Cell, H[a]? = some cell ∧ cell.cls = gA G k ∧ (∀ z, cell.vm ≠ .statics z) ∧ cell.slots.size = N ∧ ((k = 7 ∧ cell.vm ≠ .unknown ∧ ∀ j : Nat, j < N → cell.slots[j]? = some (av (f j))) ∨ (N = 0 ∧ cell.vm.isStatics = false))
theorem ar_in {G : GG} {k N i a : Nat} {f : Nat → AV} {H : Heap} (h : CRa G k N f a H) (hk : k ≠ 7) (hi : i < N) : H[a]? = some (arrV (gA G k) N (fun j => av (f j))) := by
  rcases h with h | ⟨cell, h1, h2, h3, h4, h5 | h5⟩
  · exact h
  · exact absurd h5.1 hk
  · exact absurd hi (by rw [h5.1]; exact Nat.not_lt_zero _)
theorem ar_is {U : State} {cA : ClassId} {ty : FieldType} (h : ArrOfT U cA ty) {cell : Cell} (hc : cell.cls = cA) (hs : ∀ z, cell.vm ≠ .statics z) : U.isArrayOf cell ty := ⟨hs, by
  obtain ⟨-, k, hk, h2⟩ := h 0 (fun _ => .null)
  exact ⟨k, by rw [hc]; exact hk, h2⟩⟩
def CR (G : GG) (c : CE) (a : Nat) (H : Heap) : Prop := match c with
  | .inl o => Af G a ∧ ∃ r : vw_C, clz[o.1]? = some r ∧ o.2.length = r.2.2 ∧ t_OB a (gC G o.1) r.2.2 (gS G o.1) H (vp_V (o.2.map av))
  | .inr x => (0 < x.2.1 → x.1 = 7 ∨ Af G a) ∧ x.1 < 8 ∧ x.2.1 < 2 ^ 31 ∧ CRa G x.1 x.2.1 x.2.2 a H
def Rep (G : GG) (σ : Hp) (H : Heap) : Prop := ∀ (a : Nat) (c : CE), σ a = some c → CR G c a H
theorem CR.kept {G : GG} {c : CE} {a : Nat} {H H1 : Heap} (h : CR G c a H) (hq : H1[a]? = H[a]?) : CR G c a H1 := by
  cases c with
  | inl o =>
    obtain ⟨h0, r, h1, h2, h3⟩ := h
    exact ⟨h0, r, h1, h2, h3.kept hq⟩
  | inr x =>
    obtain ⟨h0, h1, h2, h3⟩ := h
    exact ⟨h0, h1, h2, by unfold CRa at h3 ⊢; rw [hq]; exact h3⟩
theorem CR.lt {G : GG} {c : CE} {a : Nat} {H : Heap} (h : CR G c a H) : a < H.size := by
  cases c with
  | inl o =>
    obtain ⟨-, r, -, -, cell, h2, -⟩ := h
    exact (Array.getElem?_eq_some_iff.mp h2).1
  | inr x =>
    rcases h.2.2.2 with h | ⟨cell, h, -⟩
    · exact (Array.getElem?_eq_some_iff.mp h).1
    · exact (Array.getElem?_eq_some_iff.mp h).1
theorem Rep.set {G : GG} {σ : Hp} {H H1 : Heap} {a : Nat} {c : CE} (h : Rep G σ H) (hc : CR G c a H1) (oq : ∀ q : Nat, q ≠ a → H1[q]? = H[q]?) : Rep G (hset σ a c) H1 := by
  intro q e hq
  by_cases hqa : q = a
  · subst hqa
    rw [hset_eq] at hq
    cases hq
    exact hc
  · rw [hset_ne hqa] at hq
    exact (h q e hq).kept (oq q hqa)
theorem Rep.new {G : GG} {σ : Hp} {H H1 : Heap} {c : CE} (h : Rep G σ H) (hc : CR G c H.size H1) (oq : ∀ q : Nat, q < H.size → H1[q]? = H[q]?) : Rep G (hset σ H.size c) H1 := by
  intro q e hq
  by_cases hqa : q = H.size
  · subst hqa
    rw [hset_eq] at hq
    cases hq
    exact hc
  · rw [hset_ne hqa] at hq
    exact (h q e hq).kept (oq q (h q e hq).lt)
theorem Rep.fresh2 {G : GG} {σ : Hp} {H : Heap} (h : Rep G σ H) (a : Nat) (ha : H.size ≤ a) : σ a = none := by
  cases e : σ a with
  | none => rfl
  | some c => exact absurd (h _ _ e).lt (Nat.not_lt.mpr ha)
theorem Rep.fresh {G : GG} {σ : Hp} {H : Heap} (h : Rep G σ H) : σ H.size = none := by
  cases e : σ H.size with
  | none => rfl
  | some c => exact absurd (h _ _ e).lt (Nat.lt_irrefl _)
def KK (G : GG) (U : State) : Prop := (∀ (c : Nat) (q : vw_C), clz[c]? = some q → u_Kn U q.1 q.2.1 q.2.2 (gC G c) (gS G c)) ∧ ∀ (k : Nat) (ty : FieldType), akz[k]? = some ty → ArrOfT U (gA G k) ty ∧ (k < 7 → va_RA U (gA G k) ty ∧ U.vm.findClass ("[" ++ ty.toString) = some (gA G k))
theorem KK.moved {G : GG} {u U : State} (hvm : u.vm.Alike U.vm) (h : KK G u) : KK G U := ⟨fun c q hq => u_Kn_moved hvm (h.1 c q hq), fun k ty hk => ⟨arrOfT_moved hvm (h.2 k ty hk).1, fun h7 => ⟨((h.2 k ty hk).2 h7).1.moved hvm, by rw [hvm.findClass]; exact ((h.2 k ty hk).2 h7).2⟩⟩⟩
/-- the String constants' places: class, entry, text, its letters -/
def ssz : List (String × Nat × String × List Nat) := [("CoinsLaid$Telling", 35, "table", [116, 97, 98, 108, 101]), ("CoinsLaid$Telling", 97, "loses", [108, 111, 115, 101, 115]), ("CoinsLaid$Telling", 99, "wins", [119, 105, 110, 115]), ("CoinsLaid$Telling", 103, "apart", [97, 112, 97, 114, 116]), ("CoinsLaid$Telling", 44, "board", [98, 111, 97, 114, 100]), ("CoinsLaid$Tokens", 47, "table", [116, 97, 98, 108, 101]), ("CoinsLaid$Tokens", 53, "board", [98, 111, 97, 114, 100]), ("CoinsLaid$Tokens", 55, "jug", [106, 117, 103]), ("CoinsLaid$Tokens", 57, "piece", [112, 105, 101, 99, 101]), ("CoinsLaid$Tokens", 59, "lay", [108, 97, 121]), ("CoinsLaid$Telling", 121, "wide", [119, 105, 100, 101]), ("CoinsLaid$Telling", 133, "high", [104, 105, 103, 104]), ("CoinsLaid$Telling", 49, "jug", [106, 117, 103]), ("CoinsLaid$Telling", 54, "piece", [112, 105, 101, 99, 101]), ("CoinsLaid$Telling", 202, "coin", [99, 111, 105, 110]), ("CoinsLaid$Telling", 204, "block", [98, 108, 111, 99, 107]), ("CoinsLaid$Telling", 206, "corne\x72", [99, 111, 114, 110, 101, 114]), ("CoinsLaid$Telling", 188, "turns", [116, 117, 114, 110, 115]), ("CoinsLaid$Telling", 208, "first", [102, 105, 114, 115, 116]), ("CoinsLaid$Telling", 210, "second", [115, 101, 99, 111, 110, 100]), ("CoinsLaid$Telling", 59, "lay", [108, 97, 121]), ("CoinsLaidModel", 154, "table", [116, 97, 98, 108, 101]), ("CoinsLaidModel", 227, "wins", [119, 105, 110, 115]), ("CoinsLaidModel", 229, "loses", [108, 111, 115, 101, 115]), ("CoinsLaidModel", 235, "apart", [97, 112, 97, 114, 116]), ("CoinsLaidModel", 156, "board", [98, 111, 97, 114, 100]), ("CoinsLaidModel", 157, "jug", [106, 117, 103]), ("CoinsLaidModel", 159, "piece", [112, 105, 101, 99, 101]), ("CoinsLaidModel", 160, "lay", [108, 97, 121]), ("CoinsLaidModel", 241, "wide", [119, 105, 100, 101]), ("CoinsLaidModel", 246, "high", [104, 105, 103, 104]), ("CoinsLaidModel", 255, "coin", [99, 111, 105, 110]), ("CoinsLaidModel", 257, "block", [98, 108, 111, 99, 107]), ("CoinsLaidModel", 259, "corne\x72", [99, 111, 114, 110, 101, 114]), ("CoinsLaidModel", 261, "turns", [116, 117, 114, 110, 115]), ("CoinsLaidModel", 263, "first", [102, 105, 114, 115, 116]), ("CoinsLaidModel", 265, "second", [115, 101, 99, 111, 110, 100])]
/-- one String constant: its reference, its class, its bytes -/
def Str1 (G : GG) (i : Nat) (q : String × Nat × String × List Nat) (U : State) (H : Heap) : Prop :=
  vk_R q.1 q.2.1 q.2.2.1 (gK G i) U ∧ va_O "java/lang/String" (gK G i) (Af G) U H ∧ va_OF "java/lang/String" "code\x72" "B" (.int 0) (gK G i) (Af G) U H ∧ va_OF "java/lang/String" "value" "[B" (.ref (gV G i)) (gK G i) (Af G) U H ∧ va_T .byte (gV G i) q.2.2.2.length (fun j => .int (Int32.ofNat (q.2.2.2.getD j 0))) (Af G) U H
/-- links of private constructors -/
def nsz : List (String × Nat × MethodName × String) := [("CoinsLaid", 24, ⟨"CoinsLaid$Laid", "<init>", "()V"⟩, "CoinsLaid"), ("CoinsLaid$Past", 20, ⟨"CoinsLaid$Laid", "<init>", "()V"⟩, "CoinsLaid"), ("CoinsLaid", 41, ⟨"CoinsLaid$Players", "<init>", "()V"⟩, "CoinsLaid"), ("CoinsLaid$Players", 11, ⟨"CoinsLaid$Laid", "<init>", "()V"⟩, "CoinsLaid"), ("CoinsLaid", 48, ⟨"CoinsLaid$Rows", "<init>", "()V"⟩, "CoinsLaid"), ("CoinsLaid$Telling", 11, ⟨"CoinsLaid$Table", "<init>", "()V"⟩, "CoinsLaid")]
def csz : List String := ["CoinsLaid$Board", "CoinsLaid$Piece", "CoinsLaid$Lay"]
theorem va_AOA.moved {t : FieldType} {u U : State} (hvm : u.vm.Alike U.vm) (h : va_AOA t u) : va_AOA t U := by
  obtain ⟨comp, c, k, h1, h2, h3, h4, h5⟩ := arrayOverA_spec h
  obtain ⟨k', hk', he⟩ := hvm.2.2 _ _ h3
  have hi : (U.vm.classes.findIdx? fun (x : Class) => match x.kind with | .array component _ => component == comp | _ => false) = some c := by
    refine Eq.trans (va_idx_bare U.vm comp).symm ?_
    first | rw [hvm.bare_eq] | rw [← hvm.bare_eq]
    exact (va_idx_bare u.vm comp).trans h2
  have hkind : k'.kind = .array comp (.array t) := by rw [he]; exact h4
  have f1 : U.vm.findClass (FieldType.array t).toString = some comp := by rw [hvm.findClass]; exact h1
  have f2 : U.vm.findClass ("[" ++ (FieldType.array t).toString) = some c := by rw [hvm.findClass]; exact h5
  unfold va_AOA Cond.before Cond.holds
  simp only [Cond.value]
  rw [f1, Option.bind_some]
  refine (congrArg (fun o : Option Nat => (o.bind (fun c => (U.vm.classes[c]?).map fun (k : Class) => match k.kind with | .array _ ty => decide (ty = FieldType.array t) && decide (U.vm.findClass ("[" ++ (FieldType.array t).toString) = some c) | _ => false) == some true)) hi).trans ?_
  simp [hk', hkind, f2]
/-- the words of led's throw that the tables' good words don't hold -/
def ledA : List Cond := vx_at0 "CoinsLaid" 310 "java/util/NoSuchElementException" ["java/lang/RuntimeException", "java/lang/Exception"]
def ledW : List Cond := ledA.filter (fun w => !goodWord w)
theorem ledW_ok : (ledW.all fun w => w.onTables && w.keepsFace) = true := by decide +kernel
theorem face_warm {w : Cond} (hw : (w.onTables && w.keepsFace) = true) {s U : State} (hW : s.WarmedH U.vm) (h : va_Nw w s) : va_Nw w U := by
  simp only [Bool.and_eq_true] at hw
  exact va_tabs hw.1 (rfl : (s.setVm U.vm).vm = U.vm) (Cond.before_shiftedFace (State.Shifted.of_warmed hW) w hw.2 h)
def aoz : List String := ["CoinsLaid$Lay", "CoinsLaid$Laid", "java/lang/Object"]
def Xtr (G : GG) (U : State) : Prop :=
  (∀ (i : Nat) (q : String × Nat × String × List Nat), ssz[i]? = some q → Str1 G i q U U.heap) ∧
  (∀ q ∈ nsz, va_Nw (.methodLinkNest q.1 q.2.1 q.2.2.1 q.2.2.2) U) ∧
  va_Z "java/util/ArrayList" "DEFAULTCAPACITY_EMPTY_ELEMENTDATA" "[Ljava/lang/Object;" (.ref (gE G)) (Af G) U U.heap ∧
  va_Z "java/lang/String" "COMPACT_STRINGS" "Z" (.int 1) (Af G) U U.heap ∧
  va_Mi "[Ljava/lang/Object;" (gM G) U ∧ va_Dc U ∧ (∀ C ∈ csz, va_Nw (.castable C "java/lang/Object") U) ∧ (∀ C ∈ aoz, va_AO C U) ∧ va_AOA .int U ∧
  va_Zq "jdk/internal/util/Preconditions" "SIOOBE_FORMATTER" "Ljava/util/function/BiFunction;" (Af G) U U.heap ∧
  vx_Zq Bundle.tN "UNASSIGNED_STACK" Bundle.steD (Af G) U U.heap ∧ vx_Zq Bundle.tN "SUPPRESSED_SENTINEL" Bundle.listD (Af G) U U.heap ∧ ∀ w ∈ ledW, va_Nw w U
/-- what holds in every state of the run, at a method's entry -/
def Wld (G : GG) (U : State) : Prop := KK G U ∧ ((gH G).size ≤ U.heap.size ∧ ∀ q : Nat, q < (gH G).size → U.heap[q]? = (gH G)[q]?) ∧ Xtr G U
theorem Wld.go {G : GG} {s U : State} (hW : s.WarmedH U.vm) (hz : s.heap.size ≤ U.heap.size) (hk : ∀ q : Nat, q < s.heap.size → ¬ Af G q → U.heap[q]? = s.heap[q]?) (h : Wld G s) : Wld G U := by
  obtain ⟨h1, ⟨h2, h3⟩, h4, h5, h6, h7, h8, h9, h10, h11, h12, h13, h14, h15, h16⟩ := h
  have hal := hW.alike
  refine ⟨h1.moved hal, ⟨Nat.le_trans h2 hz, fun q hq => (hk q (Nat.lt_of_lt_of_le hq h2) (Nat.not_le.mpr hq)).trans (h3 q hq)⟩, ?_, fun q hq => va_Nw.warmM hW (h5 q hq), (h6.moved hal).kept hk, (h7.moved hal).kept hk, h8.moved hal, h9.moved hal, fun C hC => va_Nw.warmC hW (h10 C hC), fun C hC => (h11 C hC).moved hal, h12.moved hal, (h13.moved hal).kept hk, (h14.moved hal).kept hk, (h15.moved hal).kept hk, fun w hw => face_warm (List.all_eq_true.mp ledW_ok w hw) hW (h16 w hw)⟩
  intro i q hq
  obtain ⟨g1, g2, g3, g4, g5⟩ := h4 i q hq
  exact ⟨g1.warm hW, (g2.moved hal).kept hk, (g3.moved hal).kept hk, (g4.moved hal).kept hk, (g5.moved hal).kept hk⟩
theorem Wld.same {G : GG} {u U : State} (hv : U.vm = u.vm) (hh : U.heap = u.heap) (h : Wld G u) : Wld G U := by
  obtain ⟨h1, ⟨h2, h3⟩, h4, h5, h6, h7, h8, h9, h10, h11, h12, h13, h14, h15, h16⟩ := h
  have hal : u.vm.Alike U.vm := by rw [hv]; exact Vm.Alike.refl _
  have hk : ∀ q : Nat, q < u.heap.size → ¬ Af G q → U.heap[q]? = u.heap[q]? := fun q _ _ => by rw [hh]
  refine ⟨h1.moved hal, ⟨by rw [hh]; exact h2, fun q hq => by rw [hh]; exact h3 q hq⟩, ?_, fun q hq => va_Nw.same rfl hv.symm (h5 q hq), (h6.moved hal).kept hk, (h7.moved hal).kept hk, h8.moved hal, h9.moved hal, fun C hC => va_Nw.same rfl hv.symm (h10 C hC), fun C hC => (h11 C hC).moved hal, h12.moved hal, (h13.moved hal).kept hk, (h14.moved hal).kept hk, (h15.moved hal).kept hk, fun w hw => va_Nw.same (Bool.and_eq_true _ _ ▸ List.all_eq_true.mp ledW_ok w hw).1 hv.symm (h16 w hw)⟩
  intro i q hq
  obtain ⟨g1, g2, g3, g4, g5⟩ := h4 i q hq
  exact ⟨g1.same hv, (g2.moved hal).kept hk, (g3.moved hal).kept hk, (g4.moved hal).kept hk, (g5.moved hal).kept hk⟩
/-- the tables' words that every callee may be asked to find -/
def gtbl : List Cond := lw_tbl.filter goodWord
theorem gtbl_of {w : Cond} (h : w ∈ lw_tbl) (hg : goodWord w = true) : w ∈ gtbl := List.mem_filter.mpr ⟨h, hg⟩
theorem gtbl_good {w : Cond} (h : w ∈ gtbl) : (w.onTables && w.keeps) = true ∨ ∃ ty, w = .arrayClass ty := good_of_word (List.mem_filter.mp h).2
abbrev rmz (d mc ms : Nat) : Room := { frames := d, cells := mc, slots := ms, locals := 40 * d }
def Pcz (G : GG) (as : List AV) (σ : Hp) : Array Value → State → Prop := fun v U => v = (as.map av).toArray ∧ Rep G σ U.heap ∧ Wld G U
def Qcz (G : GG) (Q : Option AV → Hp → Prop) : Array Value → State → Outcome → State → Prop := fun _ st o t => ∃ (r : Option AV) (σ' : Hp), o = .returned (r.map av) ∧ Rep G σ' t.heap ∧ Q r σ' ∧ va_F (Af G) st t
/-- method y, called with as over σ, at depth d and with room for mc cells of ms slots: it returns, and Q says what and over which heap -/
def Sp (l : Launch) (G : GG) (d : Nat) (y : MethodName) (cc : ByteArray) (nL : Nat) (ret : Option FieldType) (mc ms : Nat) (as : List AV) (σ : Hp) (Q : Option AV → Hp → Prop) : Prop :=
  Met l y (Cond.code y cc nL ret :: gtbl) (rmz d mc ms) (Pcz G as σ) (Qcz G Q) mc ms (Af G)
/-- what a method's body has around it -/
def cx0 : Cond := Cond.arrayClass .int
theorem cx0_in : cx0 ∈ gtbl := gtbl_of (List.mem_append_right _ (List.mem_append_left _ (List.mem_of_getElem? (i := 80) rfl))) rfl
/-- where a body's walk must come to -/
abbrev Xit : Type := GG → List Frame → Array Value → State → Nat → Nat → State → Prop
def xM (Q : Option AV → Hp → Prop) : Xit := fun G below args s mc ms => MQ below (Qcz G Q) args s mc ms (Af G)
def Cx (G : GG) (own : String) (y : MethodName) (cc : ByteArray) (nL : Nat) (ret : Option FieldType) (p : Program) (s : State) (m : MethodId) (args : Array Value) (meth : Method) (c : Code) : Prop :=
  p.tables.exec = Jvm.exec ∧ c.code = cc ∧ c.maxLocals = nL ∧ s.vm.findClass own = some m.cls ∧ (∀ w ∈ cx0 :: gtbl, w.before args s = true) ∧ meth.sig.returnType = ret ∧ meth.locks = false ∧ Wld G s ∧ meth.name = y.name
def lvz (ls : Array Slot) (nL : Nat) (L : List (Nat × AV)) : Prop := lv_has ls nL (L.map fun q => (q.1, av q.2))
/-- the machine at pc, with locals L, operands st, heap σ, room left for bc cells of bs slots: it comes to its exit -/
def Wd (l : Launch) (G : GG) (d : Nat) (own : String) (y : MethodName) (cc : ByteArray) (nL : Nat) (ret : Option FieldType) (pc : Nat) (L : List (Nat × AV)) (st : List AV) (σ : Hp) (bc bs : Nat) (E : Xit) : Prop :=
  ∀ (p : Program) (e : Env) (R : Room) (s : State) (m : MethodId) (args : Array Value) (below : List Frame) (meth : Method) (c : Code) (ls : Array Slot) (H : Heap) (locs : List Loc) (cells slots mc ms : Nat),
    d ≤ R.frames → 40 * d ≤ R.locals → mc ≤ R.cells → ms ≤ R.slots →
    Cx G own y cc nL ret p s m args meth c → lvz ls nL L → Rep G σ H → va_S (Af G) s.heap H locs → cells + bc ≤ mc → slots + bs ≤ ms →
    W p l e R s m args below meth c H locs cells slots (E G below args s mc ms) (F0 m pc ls (st.map av))
theorem Cx.xtr {G : GG} {own : String} {y : MethodName} {cc : ByteArray} {nL : Nat} {ret : Option FieldType} {p : Program} {s : State} {m : MethodId} {args : Array Value} {meth : Method} {c : Code} (C : Cx G own y cc nL ret p s m args meth c) : Xtr G s := C.2.2.2.2.2.2.2.1.2.2
