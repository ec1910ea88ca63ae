/-! WHAT IS ANSWERED: the state that calls show, each call's answer and trouble -/
abbrev RO : Type := List Nat × Nat
/-- tape, its length, fault, place, trouble, table, what lies with the seed, undoable (latest first), images -/
abbrev ST : Type := (Nat → Nat) × Nat × Nat × Nat × Nat × Option TB × RO × List RO × List RO
abbrev zB (Z : ST) : Nat → Nat := Z.1
abbrev zN (Z : ST) : Nat := Z.2.1
abbrev zF (Z : ST) : Nat := Z.2.2.1
abbrev zP (Z : ST) : Nat := Z.2.2.2.1
abbrev zR (Z : ST) : Nat := Z.2.2.2.2.1
abbrev zT (Z : ST) : Option TB := Z.2.2.2.2.2.1
abbrev zW (Z : ST) : RO := Z.2.2.2.2.2.2.1
abbrev zU (Z : ST) : List RO := Z.2.2.2.2.2.2.2.1
abbrev zI (Z : ST) : List RO := Z.2.2.2.2.2.2.2.2
/-- the same with another trouble; with other acts -/
def zt (Z : ST) (t : Nat) : ST := (zB Z, zN Z, zF Z, zP Z, t, zT Z, zW Z, zU Z, zI Z)
def za (Z : ST) (w : RO) (u i : List RO) : ST := (zB Z, zN Z, zF Z, zP Z, zR Z, zT Z, w, u, i)
def VRo (T : TB) (r : RO) : Prop := GD (allL T) r.1 ∧ r.2 < 65537
def VT0 (T : TB) : Prop := WFT T ∧ T.1.1 = true ∧ T.2.1 ≠ [] ∧ T.2.2.1 ≠ []
def VZ (Z : ST) : Prop := (∀ j, zB Z j < 256) ∧ zN Z ≤ 900 ∧ zF Z < 8 ∧ zP Z ≤ 900 ∧ zR Z < 7 ∧ (zU Z).length ≤ 16 ∧ (zI Z).length ≤ 3 ∧ match zT Z with
  | none => zW Z = ([], 0) ∧ zU Z = [] ∧ zI Z = []
  | some T => VT0 T ∧ VRo T (zW Z) ∧ (∀ u ∈ zU Z, VRo T u) ∧ ∀ u ∈ zI Z, VRo T u
/-- a number that counts something there is -/
def ix (v : Int32) (n : Nat) : Option Nat := if ¬ v < 0 ∧ v < nI n then some v.toNatClampNeg else none
theorem ix_some {v : Int32} {n i : Nat} (hn : n < 2 ^ 31) (h : ix v n = some i) : v = nI i ∧ i < n := by
  unfold ix at h
  split at h
  · rename_i h1
    obtain ⟨a, ha, rfl⟩ := nt_of h1.1
    rw [nI_clamp ha] at h
    cases h
    exact ⟨rfl, (nt_lt ha hn).mp h1.2⟩
  · cases h
theorem ix_none {v : Int32} {n : Nat} (h : ix v n = none) : ¬ (¬ v < 0 ∧ v < nI n) := by
  unfold ix at h
  split at h
  · cases h
  · assumption
theorem ix_nI {i n : Nat} (hi : i < 2 ^ 31) (hn : n < 2 ^ 31) : ix (nI i) n = if i < n then some i else none := by
  unfold ix
  have := nt_neg hi
  by_cases h : i < n
  · rw [if_pos ⟨this, (nt_lt hi hn).mpr h⟩, if_pos h, nI_clamp hi]
  · rw [if_neg fun h2 => h ((nt_lt hi hn).mp h2.2), if_neg h]
abbrev QA : Type := Nat × Int32
def rf (t : Nat) : QA := (t, -1)
def ac (n : Nat) : QA := (0, nI n)
def onT (Z : ST) (f : TB → QA) : QA := match zT Z with
  | none => rf 1
  | some T => f T
def onL (Z : ST) (v : Int32) (f : TB → Nat → LY → QA) : QA := onT Z fun T => match ix v (allL T).length with
  | none => rf 1
  | some i => match (allL T)[i]? with
    | none => rf 1
    | some e => f T i e
def ztk (Z : ST) (T : TB) : Nat := tkn (allL T) (zW Z).1
def zwh (Z : ST) : Nat := (zW Z).1.length % 2
def nb (b : Bool) : Nat := if b then 1 else 0
def q_lay (Z : ST) (v w : Int32) : QA := onL Z v fun _ _ e => if w = 0 then ac e.1 else if w = 1 then ac e.2.1 else if w = 2 then ac e.2.2.1 else if w = 3 then ac e.2.2.2.1 else if w = 4 then ac e.2.2.2.2.1 else if w = 5 then ac (eS e) else rf 1
def isA (p k x y t : Int32) (e : LY) : Bool := decide (nI e.1 = p) && (decide (nI e.2.1 = k) && (decide (nI e.2.2.1 = x) && (decide (nI e.2.2.2.1 = y) && decide (nI e.2.2.2.2.1 = t))))
def oF (o : Option Nat) : QA := (0, optF o)
def q_layOf (Z : ST) (p k x y t : Int32) : QA := onT Z fun T => if (ix k T.2.1.length).isNone || (ix p T.2.2.1.length).isNone then rf 1 else if t < 0 ∨ 3 < t then rf 2 else oF (mAt (isA p k x y t) (allL T) 0 0)
def q_may (Z : ST) (v : Int32) : QA := onL Z v fun T _ e => ac (nb (myE T e (ztk Z T) (zwh Z)))
def q_lays (Z : ST) : QA := onT Z fun T => ac (mvs T (allL T) (ztk Z T) (zwh Z)).length
def q_layAt (Z : ST) (v : Int32) : QA := onT Z fun T => if v < 0 then rf 1 else match mAt (fun e => myE T e (ztk Z T) (zwh Z)) (allL T) 0 v.toNatClampNeg with
  | none => rf 1
  | some n => ac n
def q_across (Z : ST) (v : Int32) : QA := onL Z v fun T _ e => oF (acr T (allL T) e)
def q_taken (Z : ST) : QA := onT Z fun T => ac (ztk Z T)
def orS (es : List LY) (a : Nat) : Nat := es.foldl (fun a e => a ||| eS e) a
def q_dead (Z : ST) : QA := onT Z fun T => ac (an (2 ^ nsq T.2.1 - 1) (orS ((allL T).filter fun e => frE T e (ztk Z T)) (ztk Z T ||| T.2.2.2)))
def q_over (Z : ST) : QA := onT Z fun T => ac (nb (mvs T (allL T) (ztk Z T) (zwh Z)).isEmpty)
def zvl (Z : ST) (T : TB) : VT := vl T (allL T) (ztk Z T) (zwh Z)
def q_has (Z : ST) : QA := onT Z fun T => ac (nb (wH (zvl Z T)))
def q_best (Z : ST) : QA := onT Z fun T => oF (mAt (gdE T (allL T) (ztk Z T) (zwh Z)) (allL T) 0 0)
def q_good (Z : ST) : QA := onT Z fun T => ac ((allL T).filter (gdE T (allL T) (ztk Z T) (zwh Z))).length
def q_soonest (Z : ST) : QA := onT Z fun T => ac (wN (zvl Z T))
def q_fewest (Z : ST) : QA := onT Z fun T => ac (wF (zvl Z T))
def q_most (Z : ST) : QA := onT Z fun T => ac (wM (zvl Z T))
def q_lot (Z : ST) : QA := onT Z fun T => ac (wL (zvl Z T))
def q_ways (Z : ST) : Nat × Int64 := match zT Z with
  | none => (1, -1)
  | some T => (0, lN (wW (zvl Z T)))
def q_heap (Z : ST) (v : Int32) : QA := onT Z fun T => if v = -1 then (if hpT T then ac (gr T (allL T) none (ztk Z T)) else rf 5) else match ix v T.2.1.length with
  | none => rf 1
  | some k => match T.2.1[k]? with
    | none => rf 1
    | some b => if hpT T then ac (gr T (allL T) (some k) (ztk Z T &&& sqB b)) else rf 5
def slfA (T : TB) (L : List LY) (tk who : Nat) : List LY → Nat → Bool
  | [], _ => false
  | e :: es, k => (myE T e tk who && (decide (acr T L e = some k) && ansS T L (tk ||| eS e) (1 - who))) || slfA T L tk who es (k + 1)
def bacN (T : TB) (L : List LY) (tk who : Nat) : Nat := if hpT T && T.2.1.all (fun b => hfB T b tk) then (if ansS T L tk who then 2 else if slfA T L tk who L 0 then 1 else 0) else 0
def q_byAcross (Z : ST) : QA := onT Z fun T => ac (bacN T (allL T) (ztk Z T) (zwh Z))
def q_half (Z : ST) (v : Int32) : QA := onT Z fun T => match ix v T.2.1.length with
  | none => rf 1
  | some k => match T.2.1[k]? with
    | none => rf 1
    | some b => ac (nb (hfB T b (ztk Z T)))
def q_spoils (Z : ST) (v : Int32) : QA := onL Z v fun T _ e => if myE T e (ztk Z T) (zwh Z) then ac ((allL T).filter fun o => frE T o (ztk Z T) && !frE T o (ztk Z T ||| eS e)).length else rf 5
def q_open (Z : ST) (v : Int32) : QA := onT Z fun T => match ix v (nsq T.2.1) with
  | none => rf 1
  | some q => ac ((allL T).filter fun o => (eS o).testBit q && frE T o (ztk Z T)).length
def elbT (T : TB) (L : List LY) (tk who : Nat) : Option Nat := fst1 (fun q => !(tk ||| T.2.2.2).testBit q && (wH (vl T L (tk ||| 2 ^ q) who) != wH (vl T L tk who))) (nsq T.2.1) 0
def q_elbow (Z : ST) : QA := onT Z fun T => oF (elbT T (allL T) (ztk Z T) (zwh Z))
def inR (v : Int32) (lo hi : Nat) : Bool := decide (¬ v < nI lo ∧ ¬ nI hi < v)
theorem inR_some {v : Int32} {lo hi : Nat} (hl : lo < 2 ^ 31) (hh : hi < 2 ^ 31) (h : inR v lo hi = true) : ∃ n, v = nI n ∧ lo ≤ n ∧ n ≤ hi := by
  simp only [inR, decide_eq_true_eq] at h
  have h0 : ¬ v < 0 := by
    intro h1
    refine h.1 ?_
    rw [fa_lt] at h1 ⊢
    rw [nI_toInt hl]
    have : (0 : Int32).toInt = 0 := rfl
    omega
  obtain ⟨a, ha, rfl⟩ := nt_of h0
  rw [nt_lt ha hl, nt_lt hh ha] at h
  exact ⟨a, rfl, by omega, by omega⟩
def q_size (n k : Int32) : QA := if inR n 0 200 && inR k 1 9 then ac (sz k.toNatClampNeg n.toNatClampNeg) else rf 2
def q_rows (n n2 n3 k : Int32) : QA := if inR n 0 200 && (inR n2 0 200 && (inR n3 0 200 && inR k 1 9)) then ac (nb (decide (sz k.toNatClampNeg n.toNatClampNeg ^^^ sz k.toNatClampNeg n2.toNatClampNeg ^^^ sz k.toNatClampNeg n3.toNatClampNeg ≠ 0))) else rf 2
def q_rowLay (n k v : Int32) : QA := if inR n 0 200 && (inR k 1 9 && inR v 0 99) then oF (rlP n.toNatClampNeg k.toNatClampNeg v.toNatClampNeg) else rf 2
def q_round (k : Int32) (st : Bool) : QA := if inR k 1 9 then oF ((perP k.toNatClampNeg).map fun p => if st then stP k.toNatClampNeg p else p) else rf 2
/-! players -/
def msr (T : TB) (L : List LY) (tk who : Nat) : List LY → Nat → Option (Nat × Nat) → Option (Nat × Nat)
  | [], _, a => a
  | e :: es, k, a => msr T L tk who es (k + 1) (if myE T e tk who then (match a with
    | none => some (k, (mvs T L (tk ||| eS e) (1 - who)).length)
    | some (i, c) => if (mvs T L (tk ||| eS e) (1 - who)).length < c then some (k, (mvs T L (tk ||| eS e) (1 - who)).length) else some (i, c)) else a)
def drw (s : Nat) : Nat := (75 * s + 74) % 65537
def chs (T : TB) (L : List LY) (p tk who : Nat) (last : Option Nat) (sd : Nat) : Option Nat × Nat := match mAt (fun e => myE T e tk who) L 0 0 with
  | none => (none, sd)
  | some f => if p = 0 then (some f, sd) else if p = 1 then ((msr T L tk who L 0 none).map fun x => x.1, sd) else if p = 2 then
    (match last.bind fun n => (L[n]?).bind fun e => acr T L e with
      | none => (some f, sd)
      | some o => if ((L[o]?).map fun e => myE T e tk who).getD false then (some o, sd) else (some f, sd)) else if p = 3 then
    (mAt (fun e => myE T e tk who) L 0 (drw sd % (mvs T L tk who).length), drw sd) else
    (some ((mAt (gdE T L tk who) L 0 0).getD f), sd)
def mtc (T : TB) (L : List LY) (p q w0 : Nat) : Nat → Nat → Nat → Option Nat → Nat → Nat
  | 0, len, _, _, _ => len
  | n + 1, len, tk, last, sd => match chs T L (if len % 2 = 0 then p else q) tk ((w0 + len) % 2) last sd with
    | (none, _) => len
    | (some x, sd') => mtc T L p q w0 n (len + 1) (tk ||| sqN L x) (some x) sd'
def lastO (r : RO) : Option Nat := r.1.getLast?
def mtZ (Z : ST) (T : TB) (p q : Nat) : Nat := mtc T (allL T) p q (zwh Z) 14 0 (ztk Z T) (lastO (zW Z)) (zW Z).2
def winN (T : TB) (n : Nat) : Nat := if T.1.2.1 then n % 2 else 1 - n % 2
def onP (Z : ST) (p : Int32) (f : TB → Nat → QA) : QA := onT Z fun T => if inR p 0 4 then f T p.toNatClampNeg else rf 1
def chZ (Z : ST) (T : TB) (p : Nat) : Option Nat × Nat := chs T (allL T) p (ztk Z T) (zwh Z) (lastO (zW Z)) (zW Z).2
def q_would (Z : ST) (p : Int32) : QA := onP Z p fun T p => oF (chZ Z T p).1
def q_match (Z : ST) (p q : Int32) : QA := onP Z p fun T p => if inR q 0 4 then ac (winN T (mtZ Z T p q.toNatClampNeg)) else rf 1
def q_matchLong (Z : ST) (p q : Int32) : QA := onP Z p fun T p => if inR q 0 4 then ac (mtZ Z T p q.toNatClampNeg) else rf 1
def btB (Z : ST) (T : TB) (p : Nat) : Nat → Nat → Nat → Nat
  | 0, _, a => a
  | n + 1, q, a => btB Z T p n (q + 1) (if winN T (mtZ Z T p q) = 0 then a ||| 2 ^ q else a)
def q_beats (Z : ST) (p : Int32) : QA := onP Z p fun T p => ac (btB Z T p 5 0 0)
/-! acts: trouble, answer, what then is -/
def keepU (Z : ST) : List RO := ((zW Z) :: zU Z).take 16
def putZ (Z : ST) (n sd : Nat) : ST := za Z ((zW Z).1 ++ [n], sd) (keepU Z) (zI Z)
def n_puts (Z : ST) (v : Int32) : Bool × ST := match zT Z with
  | none => (false, zt Z 1)
  | some T => match ix v (allL T).length with
    | none => (false, zt Z 1)
    | some i => match (allL T)[i]? with
      | none => (false, zt Z 1)
      | some e => if myE T e (ztk Z T) (zwh Z) then (true, zt (putZ Z i (zW Z).2) 0) else (false, zt Z 5)
def n_takes (Z : ST) : Int32 × ST := match zT Z with
  | none => (-1, zt Z 1)
  | some _ => match (zW Z).1.getLast? with
    | none => (-1, zt Z 6)
    | some n => (nI n, zt (za Z ((zW Z).1.dropLast, (zW Z).2) (keepU Z) (zI Z)) 0)
def n_plays (Z : ST) (p : Int32) : Int32 × ST := match zT Z with
  | none => (-1, zt Z 1)
  | some T => if inR p 0 4 then (match chZ Z T p.toNatClampNeg with
    | (none, _) => (-1, zt Z 6)
    | (some n, sd) => (nI n, zt (putZ Z n sd) 0)) else (-1, zt Z 1)
def n_seed (Z : ST) (v : Int32) : Bool × ST := match zT Z with
  | none => (false, zt Z 1)
  | some _ => if inR v 0 65536 then (true, zt (za Z ((zW Z).1, v.toNatClampNeg) (zU Z) (zI Z)) 0) else (false, zt Z 2)
def n_undo (Z : ST) : Bool × ST := match zU Z with
  | [] => (false, zt Z 6)
  | w :: u => (true, zt (za Z w u (zI Z)) 0)
def n_image (Z : ST) : Int32 × ST := match zT Z with
  | none => (-1, zt Z 1)
  | some _ => if (zI Z).length < 3 then (nI (zI Z).length, zt (za Z (zW Z) (zU Z) (zI Z ++ [zW Z])) 0) else (-1, zt Z 3)
def n_back (Z : ST) (v : Int32) : Bool × ST := match ix v (zI Z).length with
  | none => (false, zt Z 1)
  | some i => match (zI Z)[i]? with
    | none => (false, zt Z 1)
    | some w => (true, zt (za Z w [] (zI Z)) 0)
def byt (a b c d e : Int32) (k : Nat) : Nat := (((if k < 4 then a else if k < 8 then b else if k < 12 then c else if k < 16 then d else e).toBitVec.toNat) / 2 ^ (24 - 8 * (k % 4))) % 256
def n_feed (Z : ST) (a b c d e : Int32) : Int32 × ST := if 900 < zN Z + 20 then (-1, Z) else (nI (zN Z + 20), (fun j => if zN Z ≤ j ∧ j < zN Z + 20 then byt a b c d e (j - zN Z) else zB Z j, zN Z + 20, Z.2.2))
def q_led (Z : ST) (v : Int32) : Option Nat := (ix v (zW Z).1.length).bind fun i => (zW Z).1[i]?
def q_told (Z : ST) (w : Int32) : Int32 := if w = 11 then nI (zN Z) else match zT Z with
  | none => if inR w 0 10 then 0 else -1
  | some T => if w = 0 then nI T.2.1.length else if w = 1 then nI T.2.2.1.length else if w = 2 then nI (nsq T.2.1) else if w = 3 then nI (cnt T.2.2.2) else if w = 4 then bi T.1.2.1 else if w = 5 then bi T.1.2.2 else if w = 6 then nI (zW Z).1.length else if w = 7 then nI (zwh Z) else if w = 8 then nI (zW Z).2 else if w = 9 then nI (zU Z).length else if w = 10 then nI (zI Z).length else -1
def q_where (Z : ST) : Int32 := if zR Z = 4 then nI (zP Z) else -1
