/-! THE OUTLOOK: its cells (2 the object, 3..11 its arrays) as a function of what they hold (written by wip/whole/mkoutl.py) -/
abbrev OS : Type := (Nat → Int32) × (Nat → Bool) × (Nat → Int32) × (Nat → Int32) × (Nat → Int32) × (Nat → Int32) × (Nat → Int64) × (Nat → Int32) × (Nat → Int32)
def kn (S : OS) : Nat → Int32 := S.1
def wn (S : OS) : Nat → Bool := S.2.1
def sn (S : OS) : Nat → Int32 := S.2.2.1
def fw (S : OS) : Nat → Int32 := S.2.2.2.1
def mo (S : OS) : Nat → Int32 := S.2.2.2.2.1
def lo (S : OS) : Nat → Int32 := S.2.2.2.2.2.1
def wy (S : OS) : Nat → Int64 := S.2.2.2.2.2.2.1
def gk (S : OS) : Nat → Int32 := S.2.2.2.2.2.2.2.1
def gv (S : OS) : Nat → Int32 := S.2.2.2.2.2.2.2.2
def u_kn (S : OS) (f : Nat → Int32) : OS := (f, wn S, sn S, fw S, mo S, lo S, wy S, gk S, gv S)
def u_wn (S : OS) (f : Nat → Bool) : OS := (kn S, f, sn S, fw S, mo S, lo S, wy S, gk S, gv S)
def u_sn (S : OS) (f : Nat → Int32) : OS := (kn S, wn S, f, fw S, mo S, lo S, wy S, gk S, gv S)
def u_fw (S : OS) (f : Nat → Int32) : OS := (kn S, wn S, sn S, f, mo S, lo S, wy S, gk S, gv S)
def u_mo (S : OS) (f : Nat → Int32) : OS := (kn S, wn S, sn S, fw S, f, lo S, wy S, gk S, gv S)
def u_lo (S : OS) (f : Nat → Int32) : OS := (kn S, wn S, sn S, fw S, mo S, f, wy S, gk S, gv S)
def u_wy (S : OS) (f : Nat → Int64) : OS := (kn S, wn S, sn S, fw S, mo S, lo S, f, gk S, gv S)
def u_gk (S : OS) (f : Nat → Int32) : OS := (kn S, wn S, sn S, fw S, mo S, lo S, wy S, f, gv S)
def u_gv (S : OS) (f : Nat → Int32) : OS := (kn S, wn S, sn S, fw S, mo S, lo S, wy S, gk S, f)
theorem o_kn_kn (S : OS) (f : Nat → Int32) : kn (u_kn S f) = f := rfl
theorem o_wn_kn (S : OS) (f : Nat → Int32) : wn (u_kn S f) = wn S := rfl
theorem o_sn_kn (S : OS) (f : Nat → Int32) : sn (u_kn S f) = sn S := rfl
theorem o_fw_kn (S : OS) (f : Nat → Int32) : fw (u_kn S f) = fw S := rfl
theorem o_mo_kn (S : OS) (f : Nat → Int32) : mo (u_kn S f) = mo S := rfl
theorem o_lo_kn (S : OS) (f : Nat → Int32) : lo (u_kn S f) = lo S := rfl
theorem o_wy_kn (S : OS) (f : Nat → Int32) : wy (u_kn S f) = wy S := rfl
theorem o_gk_kn (S : OS) (f : Nat → Int32) : gk (u_kn S f) = gk S := rfl
theorem o_gv_kn (S : OS) (f : Nat → Int32) : gv (u_kn S f) = gv S := rfl
theorem o_kn_wn (S : OS) (f : Nat → Bool) : kn (u_wn S f) = kn S := rfl
theorem o_wn_wn (S : OS) (f : Nat → Bool) : wn (u_wn S f) = f := rfl
theorem o_sn_wn (S : OS) (f : Nat → Bool) : sn (u_wn S f) = sn S := rfl
theorem o_fw_wn (S : OS) (f : Nat → Bool) : fw (u_wn S f) = fw S := rfl
theorem o_mo_wn (S : OS) (f : Nat → Bool) : mo (u_wn S f) = mo S := rfl
theorem o_lo_wn (S : OS) (f : Nat → Bool) : lo (u_wn S f) = lo S := rfl
theorem o_wy_wn (S : OS) (f : Nat → Bool) : wy (u_wn S f) = wy S := rfl
theorem o_gk_wn (S : OS) (f : Nat → Bool) : gk (u_wn S f) = gk S := rfl
theorem o_gv_wn (S : OS) (f : Nat → Bool) : gv (u_wn S f) = gv S := rfl
theorem o_kn_sn (S : OS) (f : Nat → Int32) : kn (u_sn S f) = kn S := rfl
theorem o_wn_sn (S : OS) (f : Nat → Int32) : wn (u_sn S f) = wn S := rfl
theorem o_sn_sn (S : OS) (f : Nat → Int32) : sn (u_sn S f) = f := rfl
theorem o_fw_sn (S : OS) (f : Nat → Int32) : fw (u_sn S f) = fw S := rfl
theorem o_mo_sn (S : OS) (f : Nat → Int32) : mo (u_sn S f) = mo S := rfl
theorem o_lo_sn (S : OS) (f : Nat → Int32) : lo (u_sn S f) = lo S := rfl
theorem o_wy_sn (S : OS) (f : Nat → Int32) : wy (u_sn S f) = wy S := rfl
theorem o_gk_sn (S : OS) (f : Nat → Int32) : gk (u_sn S f) = gk S := rfl
theorem o_gv_sn (S : OS) (f : Nat → Int32) : gv (u_sn S f) = gv S := rfl
theorem o_kn_fw (S : OS) (f : Nat → Int32) : kn (u_fw S f) = kn S := rfl
theorem o_wn_fw (S : OS) (f : Nat → Int32) : wn (u_fw S f) = wn S := rfl
theorem o_sn_fw (S : OS) (f : Nat → Int32) : sn (u_fw S f) = sn S := rfl
theorem o_fw_fw (S : OS) (f : Nat → Int32) : fw (u_fw S f) = f := rfl
theorem o_mo_fw (S : OS) (f : Nat → Int32) : mo (u_fw S f) = mo S := rfl
theorem o_lo_fw (S : OS) (f : Nat → Int32) : lo (u_fw S f) = lo S := rfl
theorem o_wy_fw (S : OS) (f : Nat → Int32) : wy (u_fw S f) = wy S := rfl
theorem o_gk_fw (S : OS) (f : Nat → Int32) : gk (u_fw S f) = gk S := rfl
theorem o_gv_fw (S : OS) (f : Nat → Int32) : gv (u_fw S f) = gv S := rfl
theorem o_kn_mo (S : OS) (f : Nat → Int32) : kn (u_mo S f) = kn S := rfl
theorem o_wn_mo (S : OS) (f : Nat → Int32) : wn (u_mo S f) = wn S := rfl
theorem o_sn_mo (S : OS) (f : Nat → Int32) : sn (u_mo S f) = sn S := rfl
theorem o_fw_mo (S : OS) (f : Nat → Int32) : fw (u_mo S f) = fw S := rfl
theorem o_mo_mo (S : OS) (f : Nat → Int32) : mo (u_mo S f) = f := rfl
theorem o_lo_mo (S : OS) (f : Nat → Int32) : lo (u_mo S f) = lo S := rfl
theorem o_wy_mo (S : OS) (f : Nat → Int32) : wy (u_mo S f) = wy S := rfl
theorem o_gk_mo (S : OS) (f : Nat → Int32) : gk (u_mo S f) = gk S := rfl
theorem o_gv_mo (S : OS) (f : Nat → Int32) : gv (u_mo S f) = gv S := rfl
theorem o_kn_lo (S : OS) (f : Nat → Int32) : kn (u_lo S f) = kn S := rfl
theorem o_wn_lo (S : OS) (f : Nat → Int32) : wn (u_lo S f) = wn S := rfl
theorem o_sn_lo (S : OS) (f : Nat → Int32) : sn (u_lo S f) = sn S := rfl
theorem o_fw_lo (S : OS) (f : Nat → Int32) : fw (u_lo S f) = fw S := rfl
theorem o_mo_lo (S : OS) (f : Nat → Int32) : mo (u_lo S f) = mo S := rfl
theorem o_lo_lo (S : OS) (f : Nat → Int32) : lo (u_lo S f) = f := rfl
theorem o_wy_lo (S : OS) (f : Nat → Int32) : wy (u_lo S f) = wy S := rfl
theorem o_gk_lo (S : OS) (f : Nat → Int32) : gk (u_lo S f) = gk S := rfl
theorem o_gv_lo (S : OS) (f : Nat → Int32) : gv (u_lo S f) = gv S := rfl
theorem o_kn_wy (S : OS) (f : Nat → Int64) : kn (u_wy S f) = kn S := rfl
theorem o_wn_wy (S : OS) (f : Nat → Int64) : wn (u_wy S f) = wn S := rfl
theorem o_sn_wy (S : OS) (f : Nat → Int64) : sn (u_wy S f) = sn S := rfl
theorem o_fw_wy (S : OS) (f : Nat → Int64) : fw (u_wy S f) = fw S := rfl
theorem o_mo_wy (S : OS) (f : Nat → Int64) : mo (u_wy S f) = mo S := rfl
theorem o_lo_wy (S : OS) (f : Nat → Int64) : lo (u_wy S f) = lo S := rfl
theorem o_wy_wy (S : OS) (f : Nat → Int64) : wy (u_wy S f) = f := rfl
theorem o_gk_wy (S : OS) (f : Nat → Int64) : gk (u_wy S f) = gk S := rfl
theorem o_gv_wy (S : OS) (f : Nat → Int64) : gv (u_wy S f) = gv S := rfl
theorem o_kn_gk (S : OS) (f : Nat → Int32) : kn (u_gk S f) = kn S := rfl
theorem o_wn_gk (S : OS) (f : Nat → Int32) : wn (u_gk S f) = wn S := rfl
theorem o_sn_gk (S : OS) (f : Nat → Int32) : sn (u_gk S f) = sn S := rfl
theorem o_fw_gk (S : OS) (f : Nat → Int32) : fw (u_gk S f) = fw S := rfl
theorem o_mo_gk (S : OS) (f : Nat → Int32) : mo (u_gk S f) = mo S := rfl
theorem o_lo_gk (S : OS) (f : Nat → Int32) : lo (u_gk S f) = lo S := rfl
theorem o_wy_gk (S : OS) (f : Nat → Int32) : wy (u_gk S f) = wy S := rfl
theorem o_gk_gk (S : OS) (f : Nat → Int32) : gk (u_gk S f) = f := rfl
theorem o_gv_gk (S : OS) (f : Nat → Int32) : gv (u_gk S f) = gv S := rfl
theorem o_kn_gv (S : OS) (f : Nat → Int32) : kn (u_gv S f) = kn S := rfl
theorem o_wn_gv (S : OS) (f : Nat → Int32) : wn (u_gv S f) = wn S := rfl
theorem o_sn_gv (S : OS) (f : Nat → Int32) : sn (u_gv S f) = sn S := rfl
theorem o_fw_gv (S : OS) (f : Nat → Int32) : fw (u_gv S f) = fw S := rfl
theorem o_mo_gv (S : OS) (f : Nat → Int32) : mo (u_gv S f) = mo S := rfl
theorem o_lo_gv (S : OS) (f : Nat → Int32) : lo (u_gv S f) = lo S := rfl
theorem o_wy_gv (S : OS) (f : Nat → Int32) : wy (u_gv S f) = wy S := rfl
theorem o_gk_gv (S : OS) (f : Nat → Int32) : gk (u_gv S f) = gk S := rfl
theorem o_gv_gv (S : OS) (f : Nat → Int32) : gv (u_gv S f) = f := rfl
def oc (P : Nat → Nat) (tb : Option Nat) (st s : Nat) (S : OS) (C : Nat → CE) : Nat → CE := fun k => if k = 2 then O3 tb (nI st) (some (P 3)) (some (P 4)) (some (P 5)) (some (P 6)) (some (P 7)) (some (P 8)) (some (P 9)) (some (P 10)) (some (P 11)) else if k = 3 then iA (2 * 2 ^ s) (kn S) else if k = 4 then zA (2 * 2 ^ s) (wn S) else if k = 5 then iA (2 * 2 ^ s) (sn S) else if k = 6 then iA (2 * 2 ^ s) (fw S) else if k = 7 then iA (2 * 2 ^ s) (mo S) else if k = 8 then iA (2 * 2 ^ s) (lo S) else if k = 9 then jA (2 * 2 ^ s) (wy S) else if k = 10 then iA (2 ^ s) (gk S) else if k = 11 then iA (2 ^ s) (gv S) else C k
def oh (P : Nat → Nat) (tb : Option Nat) (st s : Nat) (S : OS) (C : Nat → CE) (τ : Hp) : Hp := ch 75 P (oc P tb st s S C) τ
theorem oc_out {P : Nat → Nat} {tb : Option Nat} {st s : Nat} {S : OS} {C : Nat → CE} {k : Nat} (h : k < 2 ∨ 11 < k) : oc P tb st s S C k = C k := by
  unfold oc
  repeat rw [if_neg (by omega)]
theorem oc_ck {P : Nat → Nat} {tb tb' : Option Nat} {st st' s s' : Nat} {S S' : OS} {C : Nat → CE} : Ck 2 11 (oc P tb st s S C) (oc P tb' st' s' S' C) := fun k hk => by rw [oc_out hk, oc_out hk]
section OH
variable {P : Nat → Nat} {tb : Option Nat} {tb' st s : Nat} {S : OS} {C : Nat → CE} {τ : Hp} {i : Int32}
theorem oR_0 (hB : okB 75 P) {K : Option Nat → Prop} : fR (oh P tb st s S C τ) (P 2) 3 0 K = K tb := by
  unfold oh; rw [fR_c hB (by decide)]; exact rR3_0
theorem oN_0 (hB : okB 75 P) {K : Nat → Prop} : fN (oh P (some tb') st s S C τ) (P 2) 3 0 K = K tb' := by
  unfold oh; rw [fN_c hB (by decide)]; exact rN3_0
theorem oI_1 (hB : okB 75 P) {K : Int32 → Prop} : fI (oh P tb st s S C τ) (P 2) 3 1 K = K (nI st) := by
  unfold oh; rw [fI_c hB (by decide)]; exact rI3_1
theorem oN_2 (hB : okB 75 P) {K : Nat → Prop} : fN (oh P tb st s S C τ) (P 2) 3 2 K = K (P 3) := by
  unfold oh; rw [fN_c hB (by decide)]; exact rN3_2
theorem oN_3 (hB : okB 75 P) {K : Nat → Prop} : fN (oh P tb st s S C τ) (P 2) 3 3 K = K (P 4) := by
  unfold oh; rw [fN_c hB (by decide)]; exact rN3_3
theorem oN_4 (hB : okB 75 P) {K : Nat → Prop} : fN (oh P tb st s S C τ) (P 2) 3 4 K = K (P 5) := by
  unfold oh; rw [fN_c hB (by decide)]; exact rN3_4
theorem oN_5 (hB : okB 75 P) {K : Nat → Prop} : fN (oh P tb st s S C τ) (P 2) 3 5 K = K (P 6) := by
  unfold oh; rw [fN_c hB (by decide)]; exact rN3_5
theorem oN_6 (hB : okB 75 P) {K : Nat → Prop} : fN (oh P tb st s S C τ) (P 2) 3 6 K = K (P 7) := by
  unfold oh; rw [fN_c hB (by decide)]; exact rN3_6
theorem oN_7 (hB : okB 75 P) {K : Nat → Prop} : fN (oh P tb st s S C τ) (P 2) 3 7 K = K (P 8) := by
  unfold oh; rw [fN_c hB (by decide)]; exact rN3_7
theorem oN_8 (hB : okB 75 P) {K : Nat → Prop} : fN (oh P tb st s S C τ) (P 2) 3 8 K = K (P 9) := by
  unfold oh; rw [fN_c hB (by decide)]; exact rN3_8
theorem oN_9 (hB : okB 75 P) {K : Nat → Prop} : fN (oh P tb st s S C τ) (P 2) 3 9 K = K (P 10) := by
  unfold oh; rw [fN_c hB (by decide)]; exact rN3_9
theorem oN_10 (hB : okB 75 P) {K : Nat → Prop} : fN (oh P tb st s S C τ) (P 2) 3 10 K = K (P 11) := by
  unfold oh; rw [fN_c hB (by decide)]; exact rN3_10
theorem oL_3 (hB : okB 75 P) {K : Int32 → Prop} : aL (oh P tb st s S C τ) (P 3) K = K (nI (2 * 2 ^ s)) := by
  unfold oh; rw [aL_c hB (by decide)]; exact cL_i
theorem oG_3 (hB : okB 75 P) {K : Int32 → Prop} : gI (oh P tb st s S C τ) (P 3) i K = (vp_in i (2 * 2 ^ s) ∧ K (kn S i.toNatClampNeg)) := by
  unfold oh; rw [gI_c hB (by decide)]; exact xI_r
theorem ou_3 {x : Int32} {j : Nat} : up_ (oc P tb st s S C) 3 (iA (2 * 2 ^ s) (up_ (kn S) j x)) = oc P tb st s (u_kn S (up_ (kn S) j x)) C := by
  funext k
  by_cases h : k = 3
  · subst h; rw [up_eq]; rfl
  · rw [up_ne h]; simp only [oc, h, if_false]; rfl
theorem oS_3 (hB : okB 75 P) {x : Int32} {K : Hp → Prop} : sI (oh P tb st s S C τ) (P 3) i x K = (vp_in i (2 * 2 ^ s) ∧ K (oh P tb st s (u_kn S (up_ (kn S) i.toNatClampNeg x)) C τ)) := by
  unfold oh; rw [sI_c hB (by decide), show oc P tb st s S C 3 = iA (2 * 2 ^ s) (kn S) from rfl, yI_r]; simp only [ou_3]
theorem oL_4 (hB : okB 75 P) {K : Int32 → Prop} : aL (oh P tb st s S C τ) (P 4) K = K (nI (2 * 2 ^ s)) := by
  unfold oh; rw [aL_c hB (by decide)]; exact cL_z
theorem oG_4 (hB : okB 75 P) {K : Bool → Prop} : gZ (oh P tb st s S C τ) (P 4) i K = (vp_in i (2 * 2 ^ s) ∧ K (wn S i.toNatClampNeg)) := by
  unfold oh; rw [gZ_c hB (by decide)]; exact xZ_r
theorem ou_4 {x : Bool} {j : Nat} : up_ (oc P tb st s S C) 4 (zA (2 * 2 ^ s) (up_ (wn S) j x)) = oc P tb st s (u_wn S (up_ (wn S) j x)) C := by
  funext k
  by_cases h : k = 4
  · subst h; rw [up_eq]; rfl
  · rw [up_ne h]; simp only [oc, h, if_false]; rfl
theorem oS_4 (hB : okB 75 P) {x : Bool} {K : Hp → Prop} : sZ (oh P tb st s S C τ) (P 4) i x K = (vp_in i (2 * 2 ^ s) ∧ K (oh P tb st s (u_wn S (up_ (wn S) i.toNatClampNeg x)) C τ)) := by
  unfold oh; rw [sZ_c hB (by decide), show oc P tb st s S C 4 = zA (2 * 2 ^ s) (wn S) from rfl, yZ_r]; simp only [ou_4]
theorem oL_5 (hB : okB 75 P) {K : Int32 → Prop} : aL (oh P tb st s S C τ) (P 5) K = K (nI (2 * 2 ^ s)) := by
  unfold oh; rw [aL_c hB (by decide)]; exact cL_i
theorem oG_5 (hB : okB 75 P) {K : Int32 → Prop} : gI (oh P tb st s S C τ) (P 5) i K = (vp_in i (2 * 2 ^ s) ∧ K (sn S i.toNatClampNeg)) := by
  unfold oh; rw [gI_c hB (by decide)]; exact xI_r
theorem ou_5 {x : Int32} {j : Nat} : up_ (oc P tb st s S C) 5 (iA (2 * 2 ^ s) (up_ (sn S) j x)) = oc P tb st s (u_sn S (up_ (sn S) j x)) C := by
  funext k
  by_cases h : k = 5
  · subst h; rw [up_eq]; rfl
  · rw [up_ne h]; simp only [oc, h, if_false]; rfl
theorem oS_5 (hB : okB 75 P) {x : Int32} {K : Hp → Prop} : sI (oh P tb st s S C τ) (P 5) i x K = (vp_in i (2 * 2 ^ s) ∧ K (oh P tb st s (u_sn S (up_ (sn S) i.toNatClampNeg x)) C τ)) := by
  unfold oh; rw [sI_c hB (by decide), show oc P tb st s S C 5 = iA (2 * 2 ^ s) (sn S) from rfl, yI_r]; simp only [ou_5]
theorem oL_6 (hB : okB 75 P) {K : Int32 → Prop} : aL (oh P tb st s S C τ) (P 6) K = K (nI (2 * 2 ^ s)) := by
  unfold oh; rw [aL_c hB (by decide)]; exact cL_i
theorem oG_6 (hB : okB 75 P) {K : Int32 → Prop} : gI (oh P tb st s S C τ) (P 6) i K = (vp_in i (2 * 2 ^ s) ∧ K (fw S i.toNatClampNeg)) := by
  unfold oh; rw [gI_c hB (by decide)]; exact xI_r
theorem ou_6 {x : Int32} {j : Nat} : up_ (oc P tb st s S C) 6 (iA (2 * 2 ^ s) (up_ (fw S) j x)) = oc P tb st s (u_fw S (up_ (fw S) j x)) C := by
  funext k
  by_cases h : k = 6
  · subst h; rw [up_eq]; rfl
  · rw [up_ne h]; simp only [oc, h, if_false]; rfl
theorem oS_6 (hB : okB 75 P) {x : Int32} {K : Hp → Prop} : sI (oh P tb st s S C τ) (P 6) i x K = (vp_in i (2 * 2 ^ s) ∧ K (oh P tb st s (u_fw S (up_ (fw S) i.toNatClampNeg x)) C τ)) := by
  unfold oh; rw [sI_c hB (by decide), show oc P tb st s S C 6 = iA (2 * 2 ^ s) (fw S) from rfl, yI_r]; simp only [ou_6]
theorem oL_7 (hB : okB 75 P) {K : Int32 → Prop} : aL (oh P tb st s S C τ) (P 7) K = K (nI (2 * 2 ^ s)) := by
  unfold oh; rw [aL_c hB (by decide)]; exact cL_i
theorem oG_7 (hB : okB 75 P) {K : Int32 → Prop} : gI (oh P tb st s S C τ) (P 7) i K = (vp_in i (2 * 2 ^ s) ∧ K (mo S i.toNatClampNeg)) := by
  unfold oh; rw [gI_c hB (by decide)]; exact xI_r
theorem ou_7 {x : Int32} {j : Nat} : up_ (oc P tb st s S C) 7 (iA (2 * 2 ^ s) (up_ (mo S) j x)) = oc P tb st s (u_mo S (up_ (mo S) j x)) C := by
  funext k
  by_cases h : k = 7
  · subst h; rw [up_eq]; rfl
  · rw [up_ne h]; simp only [oc, h, if_false]; rfl
theorem oS_7 (hB : okB 75 P) {x : Int32} {K : Hp → Prop} : sI (oh P tb st s S C τ) (P 7) i x K = (vp_in i (2 * 2 ^ s) ∧ K (oh P tb st s (u_mo S (up_ (mo S) i.toNatClampNeg x)) C τ)) := by
  unfold oh; rw [sI_c hB (by decide), show oc P tb st s S C 7 = iA (2 * 2 ^ s) (mo S) from rfl, yI_r]; simp only [ou_7]
theorem oL_8 (hB : okB 75 P) {K : Int32 → Prop} : aL (oh P tb st s S C τ) (P 8) K = K (nI (2 * 2 ^ s)) := by
  unfold oh; rw [aL_c hB (by decide)]; exact cL_i
theorem oG_8 (hB : okB 75 P) {K : Int32 → Prop} : gI (oh P tb st s S C τ) (P 8) i K = (vp_in i (2 * 2 ^ s) ∧ K (lo S i.toNatClampNeg)) := by
  unfold oh; rw [gI_c hB (by decide)]; exact xI_r
theorem ou_8 {x : Int32} {j : Nat} : up_ (oc P tb st s S C) 8 (iA (2 * 2 ^ s) (up_ (lo S) j x)) = oc P tb st s (u_lo S (up_ (lo S) j x)) C := by
  funext k
  by_cases h : k = 8
  · subst h; rw [up_eq]; rfl
  · rw [up_ne h]; simp only [oc, h, if_false]; rfl
theorem oS_8 (hB : okB 75 P) {x : Int32} {K : Hp → Prop} : sI (oh P tb st s S C τ) (P 8) i x K = (vp_in i (2 * 2 ^ s) ∧ K (oh P tb st s (u_lo S (up_ (lo S) i.toNatClampNeg x)) C τ)) := by
  unfold oh; rw [sI_c hB (by decide), show oc P tb st s S C 8 = iA (2 * 2 ^ s) (lo S) from rfl, yI_r]; simp only [ou_8]
theorem oL_9 (hB : okB 75 P) {K : Int32 → Prop} : aL (oh P tb st s S C τ) (P 9) K = K (nI (2 * 2 ^ s)) := by
  unfold oh; rw [aL_c hB (by decide)]; exact cL_j
theorem oG_9 (hB : okB 75 P) {K : Int64 → Prop} : gJ (oh P tb st s S C τ) (P 9) i K = (vp_in i (2 * 2 ^ s) ∧ K (wy S i.toNatClampNeg)) := by
  unfold oh; rw [gJ_c hB (by decide)]; exact xJ_r
theorem ou_9 {x : Int64} {j : Nat} : up_ (oc P tb st s S C) 9 (jA (2 * 2 ^ s) (up_ (wy S) j x)) = oc P tb st s (u_wy S (up_ (wy S) j x)) C := by
  funext k
  by_cases h : k = 9
  · subst h; rw [up_eq]; rfl
  · rw [up_ne h]; simp only [oc, h, if_false]; rfl
theorem oS_9 (hB : okB 75 P) {x : Int64} {K : Hp → Prop} : sJ (oh P tb st s S C τ) (P 9) i x K = (vp_in i (2 * 2 ^ s) ∧ K (oh P tb st s (u_wy S (up_ (wy S) i.toNatClampNeg x)) C τ)) := by
  unfold oh; rw [sJ_c hB (by decide), show oc P tb st s S C 9 = jA (2 * 2 ^ s) (wy S) from rfl, yJ_r]; simp only [ou_9]
theorem oL_10 (hB : okB 75 P) {K : Int32 → Prop} : aL (oh P tb st s S C τ) (P 10) K = K (nI (2 ^ s)) := by
  unfold oh; rw [aL_c hB (by decide)]; exact cL_i
theorem oG_10 (hB : okB 75 P) {K : Int32 → Prop} : gI (oh P tb st s S C τ) (P 10) i K = (vp_in i (2 ^ s) ∧ K (gk S i.toNatClampNeg)) := by
  unfold oh; rw [gI_c hB (by decide)]; exact xI_r
theorem ou_10 {x : Int32} {j : Nat} : up_ (oc P tb st s S C) 10 (iA (2 ^ s) (up_ (gk S) j x)) = oc P tb st s (u_gk S (up_ (gk S) j x)) C := by
  funext k
  by_cases h : k = 10
  · subst h; rw [up_eq]; rfl
  · rw [up_ne h]; simp only [oc, h, if_false]; rfl
theorem oS_10 (hB : okB 75 P) {x : Int32} {K : Hp → Prop} : sI (oh P tb st s S C τ) (P 10) i x K = (vp_in i (2 ^ s) ∧ K (oh P tb st s (u_gk S (up_ (gk S) i.toNatClampNeg x)) C τ)) := by
  unfold oh; rw [sI_c hB (by decide), show oc P tb st s S C 10 = iA (2 ^ s) (gk S) from rfl, yI_r]; simp only [ou_10]
theorem oL_11 (hB : okB 75 P) {K : Int32 → Prop} : aL (oh P tb st s S C τ) (P 11) K = K (nI (2 ^ s)) := by
  unfold oh; rw [aL_c hB (by decide)]; exact cL_i
theorem oG_11 (hB : okB 75 P) {K : Int32 → Prop} : gI (oh P tb st s S C τ) (P 11) i K = (vp_in i (2 ^ s) ∧ K (gv S i.toNatClampNeg)) := by
  unfold oh; rw [gI_c hB (by decide)]; exact xI_r
theorem ou_11 {x : Int32} {j : Nat} : up_ (oc P tb st s S C) 11 (iA (2 ^ s) (up_ (gv S) j x)) = oc P tb st s (u_gv S (up_ (gv S) j x)) C := by
  funext k
  by_cases h : k = 11
  · subst h; rw [up_eq]; rfl
  · rw [up_ne h]; simp only [oc, h, if_false]; rfl
theorem oS_11 (hB : okB 75 P) {x : Int32} {K : Hp → Prop} : sI (oh P tb st s S C τ) (P 11) i x K = (vp_in i (2 ^ s) ∧ K (oh P tb st s (u_gv S (up_ (gv S) i.toNatClampNeg x)) C τ)) := by
  unfold oh; rw [sI_c hB (by decide), show oc P tb st s S C 11 = iA (2 ^ s) (gv S) from rfl, yI_r]; simp only [ou_11]
theorem rv_o (hB : okB 75 P) : rv (oh P tb st s S C τ) (P 2) 3 := rv_c hB (by decide) ⟨_, rfl⟩
theorem oh_r {q : Nat} (h : outB 75 P q) : oh P tb st s S C τ q = τ q := ch_r h
end OH
