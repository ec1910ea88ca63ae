/-! THE GAME: what a stand is worth (has, soonest, fewest, most, lot, ways) -/
abbrev VT : Type := Bool × Nat × Nat × Nat × Nat × Nat
def wH (v : VT) : Bool := v.1
def wN (v : VT) : Nat := v.2.1
def wF (v : VT) : Nat := v.2.2.1
def wM (v : VT) : Nat := v.2.2.2.1
def wL (v : VT) : Nat := v.2.2.2.2.1
def wW (v : VT) : Nat := v.2.2.2.2.2
def rk (a : Bool × Nat) (c : VT) : Bool × Nat := if wH c then (if a.1 then a else (false, max a.2 (wN c + 1))) else (if a.1 then (true, min a.2 (wN c + 1)) else (true, wN c + 1))
def hasS (w : Bool) (cs : List VT) : Bool := if cs.isEmpty then w else cs.any fun c => !wH c
def sooS (cs : List VT) : Nat := (cs.foldl rk (false, 0)).2
def fewS (cs : List VT) : Nat := if cs.isEmpty then 0 else cs.foldl (fun a c => min a (wF c + 1)) 14
def mucS (cs : List VT) : Nat := cs.foldl (fun a c => max a (wM c + 1)) 0
def lotS (cs : List VT) : Nat := if cs.isEmpty then 0 else cs.foldl (fun a c => a + (1000000 + wL c)) 0 / cs.length
def wayS (cs : List VT) : Nat := if cs.isEmpty then 1 else cs.foldl (fun a c => min (a + wW c) 1000000000000000000) 0
def vstep (w : Bool) (cs : List VT) : VT := (hasS w cs, sooS cs, fewS cs, mucS cs, lotS cs, wayS cs)
def vF (T : TB) (L : List LY) : Nat → Nat → Nat → VT
  | 0, _, _ => (false, 0, 0, 0, 0, 0)
  | n + 1, tk, who => vstep T.1.2.1 ((mvs T L tk who).map fun e => vF T L n (tk ||| eS e) (1 - who))
def vl (T : TB) (L : List LY) (tk who : Nat) : VT := vF T L 15 tk who
/-- free squares -/
def fr (tk : Nat) : Nat := 14 - cnt tk
theorem frE_0 {T : TB} {e : LY} {tk : Nat} (h : frE T e tk = true) : tk &&& eS e = 0 := by
  simp only [frE, Bool.and_eq_true, decide_eq_true_eq] at h
  exact h.1
theorem myE_fr {T : TB} {e : LY} {tk who : Nat} (h : myE T e tk who = true) : frE T e tk = true := by
  simp only [myE, Bool.and_eq_true] at h
  exact h.1
theorem mvs_mem {T : TB} {L : List LY} {tk who : Nat} {e : LY} (h : e ∈ mvs T L tk who) : e ∈ L ∧ myE T e tk who = true := by
  simpa [mvs, List.mem_filter] using h
theorem VL.mem {T : TB} {L : List LY} (hV : VL T L) {e : LY} (h : e ∈ L) : 0 < eS e ∧ eS e < 16384 := by
  obtain ⟨i, hi, e1⟩ := List.mem_iff_getElem.mp h
  obtain ⟨-, -, h1, h2, -⟩ := hV i e (by rw [List.getElem?_eq_getElem hi, e1])
  exact ⟨h1, h2⟩
theorem fr_set {tk sq : Nat} (h : tk &&& sq = 0) (h0 : 0 < sq) (h1 : sq < 16384) : fr (tk ||| sq) < fr tk := by
  have h2 := cnt_or h
  have h3 := cnt_pos h0 h1
  have h4 := cnt_le (tk ||| sq)
  unfold fr
  omega
theorem fr_mv {T : TB} {L : List LY} (hV : VL T L) {tk who : Nat} {e : LY} (h : e ∈ mvs T L tk who) : fr (tk ||| eS e) < fr tk := by
  obtain ⟨h1, h2⟩ := mvs_mem h
  obtain ⟨h3, h4⟩ := hV.mem h1
  exact fr_set (frE_0 (myE_fr h2)) h3 h4
theorem vF_st {T : TB} {L : List LY} (hV : VL T L) : ∀ n n' tk who, fr tk < n → fr tk < n' → vF T L n tk who = vF T L n' tk who
  | 0, _, _, _ => fun h _ => by omega
  | n + 1, 0, _, _ => fun _ h => by omega
  | n + 1, n' + 1, tk, who => fun h h' => by
    simp only [vF]
    refine congrArg (vstep T.1.2.1) ?_
    apply List.map_congr_left
    intro e he
    have := fr_mv hV he
    exact vF_st hV n n' _ _ (by omega) (by omega)
theorem fr_le (tk : Nat) : fr tk ≤ 14 := Nat.sub_le _ _
/-- the stands behind -/
def kids (T : TB) (L : List LY) (tk who : Nat) : List VT := (mvs T L tk who).map fun e => vl T L (tk ||| eS e) (1 - who)
theorem vl_eq {T : TB} {L : List LY} (hV : VL T L) (tk who : Nat) : vl T L tk who = vstep T.1.2.1 (kids T L tk who) := by
  show vF T L (14 + 1) tk who = _
  simp only [vF, kids]
  refine congrArg (vstep T.1.2.1) ?_
  apply List.map_congr_left
  intro e he
  have := fr_mv hV he
  have := fr_le tk
  exact vF_st hV 14 15 _ _ (by omega) (by omega)
theorem fold_inv {α β : Type} {P : β → Prop} {f : β → α → β} : ∀ (l : List α) (a : β), P a → (∀ b c, c ∈ l → P b → P (f b c)) → P (l.foldl f a)
  | [], a => fun h _ => h
  | c :: l, a => fun h hs => fold_inv l (f a c) (hs a c (List.mem_cons_self) h) fun b c' hc hb => hs b c' (List.mem_cons_of_mem _ hc) hb
theorem sum_le {f : VT → Nat} {M : Nat} : ∀ (cs : List VT) (a : Nat), (∀ c ∈ cs, f c ≤ M) → cs.foldl (fun a c => a + f c) a ≤ a + cs.length * M
  | [], a => fun _ => by simp
  | c :: cs, a => fun h => by
    have h1 := sum_le (f := f) cs (a + f c) fun c' hc => h c' (List.mem_cons_of_mem _ hc)
    have h2 := h c List.mem_cons_self
    simp only [List.foldl_cons, List.length_cons, Nat.succ_mul]
    omega
theorem vl_bd {T : TB} {L : List LY} (hV : VL T L) : ∀ n tk who, fr tk ≤ n → wN (vl T L tk who) ≤ n ∧ wF (vl T L tk who) ≤ n ∧ wM (vl T L tk who) ≤ n ∧ wL (vl T L tk who) ≤ 1000000 * n ∧ wW (vl T L tk who) ≤ 1000000000000000000 := by
  intro n
  induction n with
  | zero =>
    intro tk who hn
    have h0 : mvs T L tk who = [] := by
      cases hm : mvs T L tk who with
      | nil => rfl
      | cons e es =>
        have := fr_mv hV (e := e) (tk := tk) (who := who) (by rw [hm]; exact List.mem_cons_self)
        omega
    rw [vl_eq hV, kids, h0]
    refine ⟨by simp [vstep, wN, sooS], by simp [vstep, wF, fewS], by simp [vstep, wM, mucS], by simp [vstep, wL, lotS], by simp [vstep, wW, wayS]⟩
  | succ n ih =>
    intro tk who hn
    have hc : ∀ c ∈ kids T L tk who, wN c ≤ n ∧ wF c ≤ n ∧ wM c ≤ n ∧ wL c ≤ 1000000 * n ∧ wW c ≤ 1000000000000000000 := by
      intro c hc
      simp only [kids, List.mem_map] at hc
      obtain ⟨e, he, rfl⟩ := hc
      have := fr_mv hV he
      exact ih _ _ (by omega)
    rw [vl_eq hV]
    revert hc
    generalize kids T L tk who = cs
    intro hc
    refine ⟨?_, ?_, ?_, ?_, ?_⟩
    · show (cs.foldl rk (false, 0)).2 ≤ n + 1
      refine fold_inv (P := fun (b : Bool × Nat) => b.2 ≤ n + 1) cs _ (Nat.zero_le _) fun b c h1 h2 => ?_
      have := (hc c h1).1
      simp only [rk]
      split <;> split <;> first | omega | (show _ ≤ _; omega) | (dsimp only; omega)
    · show fewS cs ≤ n + 1
      unfold fewS
      cases cs with
      | nil => simp
      | cons c cs =>
        simp only [List.isEmpty_cons, Bool.false_eq_true, if_false, List.foldl_cons]
        have := (hc c List.mem_cons_self).2.1
        exact fold_inv (P := fun b => b ≤ n + 1) cs _ (by omega) fun b c h1 h2 => by omega
    · show mucS cs ≤ n + 1
      refine fold_inv (P := fun b => b ≤ n + 1) cs _ (Nat.zero_le _) fun b c h1 h2 => ?_
      have := (hc c h1).2.2.1
      omega
    · show lotS cs ≤ 1000000 * (n + 1)
      unfold lotS
      cases hcs : cs with
      | nil => simp
      | cons c cs' =>
        rw [← hcs]
        have h1 := sum_le (f := fun c => 1000000 + wL c) (M := 1000000 * (n + 1)) cs 0 fun c h1 => by
          have := (hc c h1).2.2.2.1
          show 1000000 + wL c ≤ _
          omega
        have h2 : 0 < cs.length := by rw [hcs]; simp
        have h3 : cs.isEmpty = false := by rw [hcs]; rfl
        rw [h3, if_neg (by decide)]
        refine Nat.div_le_of_le_mul ?_
        omega
    · show wayS cs ≤ _
      unfold wayS
      cases cs with
      | nil => simp
      | cons c cs =>
        simp only [List.isEmpty_cons, Bool.false_eq_true, if_false]
        exact fold_inv (P := fun b => b ≤ 1000000000000000000) (c :: cs) _ (by omega) fun b c h1 h2 => by omega
theorem vl_b {T : TB} {L : List LY} (hV : VL T L) (tk who : Nat) : wN (vl T L tk who) ≤ 14 ∧ wF (vl T L tk who) ≤ 14 ∧ wM (vl T L tk who) ≤ 14 ∧ wL (vl T L tk who) ≤ 14000000 ∧ wW (vl T L tk who) ≤ 1000000000000000000 := vl_bd hV 14 tk who (fr_le tk)
/-! how the model comes to soonest and fewest -/
def bst (h : Bool) (b : Option Nat) (n : Nat) : Option Nat := some (match b with
  | none => n
  | some b => if (if h then decide (n < b) else decide (b < n)) then n else b)
theorem soo_f : ∀ (cs : List VT) (a : Nat), (cs.any fun c => !wH c) = false → cs.foldl rk (false, a) = (false, cs.foldl (fun a c => max a (wN c + 1)) a) ∧ cs.foldl (fun b c => bst false b (1 + wN c)) (some a) = some (cs.foldl (fun a c => max a (wN c + 1)) a)
  | [], a => fun _ => ⟨rfl, rfl⟩
  | c :: cs, a => fun h => by
    simp only [List.any_cons, Bool.or_eq_false_iff, Bool.not_eq_false'] at h
    have h1 : rk (false, a) c = (false, max a (wN c + 1)) := by simp [rk, h.1]
    have h2 : bst false (some a) (1 + wN c) = some (max a (wN c + 1)) := by
      simp only [bst, Bool.false_eq_true, if_false, decide_eq_true_eq]
      congr 1
      split <;> omega
    simp only [List.foldl_cons, h1, h2]
    exact soo_f cs _ h.2
theorem soo_t : ∀ (cs : List VT) (a : Nat), (cs.foldl rk (true, a)).1 = true ∧ (cs.filter fun c => !wH c).foldl (fun b c => bst true b (1 + wN c)) (some a) = some (cs.foldl rk (true, a)).2
  | [], a => ⟨rfl, rfl⟩
  | c :: cs, a => by
    cases h : wH c with
    | true =>
      have h1 : rk (true, a) c = (true, a) := by simp [rk, h]
      simp only [List.foldl_cons, List.filter_cons, h1, h, Bool.not_true, Bool.false_eq_true, if_false]
      exact soo_t cs a
    | false =>
      have h1 : rk (true, a) c = (true, min a (wN c + 1)) := by simp [rk, h]
      have h2 : bst true (some a) (1 + wN c) = some (min a (wN c + 1)) := by
        simp only [bst, if_true, decide_eq_true_eq]
        congr 1
        split <;> omega
      simp only [List.foldl_cons, List.filter_cons, h1, h, Bool.not_false, if_true, h2]
      exact soo_t cs _
theorem soo_h : ∀ (cs : List VT) (a : Nat), (cs.any fun c => !wH c) = true → (cs.filter fun c => !wH c).foldl (fun b c => bst true b (1 + wN c)) none = some (cs.foldl rk (false, a)).2
  | [], a => fun h => by simp at h
  | c :: cs, a => fun h => by
    cases h1 : wH c with
    | true =>
      have h2 : rk (false, a) c = (false, max a (wN c + 1)) := by simp [rk, h1]
      simp only [List.any_cons, h1, Bool.not_true, Bool.false_or] at h
      simp only [List.foldl_cons, List.filter_cons, h2, h1, Bool.not_true, Bool.false_eq_true, if_false]
      exact soo_h cs _ h
    | false =>
      have h2 : rk (false, a) c = (true, wN c + 1) := by simp [rk, h1]
      simp only [List.foldl_cons, List.filter_cons, h2, h1, Bool.not_false, if_true]
      have := (soo_t cs (wN c + 1)).2
      rw [Nat.add_comm] at this
      simpa [bst, Nat.add_comm] using this
/-- the model's soonest -/
theorem soo_m (w : Bool) (cs : List VT) : ((cs.filter fun c => !hasS w cs || !wH c).foldl (fun b c => bst (hasS w cs) b (1 + wN c)) none).getD 0 = sooS cs := by
  cases hcs : cs with
  | nil => rfl
  | cons c cs' =>
    rw [← hcs]
    have h0 : cs.isEmpty = false := by rw [hcs]; rfl
    unfold hasS
    rw [h0, if_neg (by decide)]
    cases h : cs.any fun c => !wH c with
    | true =>
      simp only [Bool.not_true, Bool.false_or]
      rw [soo_h cs 0 h]
      rfl
    | false =>
      have hf : (cs.filter fun c => !false || !wH c) = cs := by simp
      rw [hf, hcs, List.foldl_cons]
      have h1 : wH c = true := by
        rw [hcs] at h
        simpa using (Bool.or_eq_false_iff.mp (by simpa using h : (!wH c || cs'.any fun c => !wH c) = false)).1
      have h2 : (cs'.any fun c => !wH c) = false := by
        rw [hcs, List.any_cons] at h
        exact (Bool.or_eq_false_iff.mp h).2
      have h3 := soo_f cs' (1 + wN c) h2
      have h4 : rk (false, 0) c = (false, 1 + wN c) := by
        simp only [rk, h1, if_true, Bool.false_eq_true, if_false]
        congr 1
        omega
      unfold sooS
      rw [List.foldl_cons, h4, h3.1]
      show (cs'.foldl (fun b c => bst false b (1 + wN c)) (some (1 + wN c))).getD 0 = _
      rw [h3.2]
      rfl
theorem few_f : ∀ (cs : List VT) (a : Nat), cs.foldl (fun b c => bst true b (1 + wF c)) (some a) = some (cs.foldl (fun a c => min a (wF c + 1)) a)
  | [], a => rfl
  | c :: cs, a => by
    have h2 : bst true (some a) (1 + wF c) = some (min a (wF c + 1)) := by
      simp only [bst, if_true, decide_eq_true_eq]
      congr 1
      split <;> omega
    simp only [List.foldl_cons, h2]
    exact few_f cs _
/-- the model's fewest -/
theorem few_m {cs : List VT} (h : ∀ c ∈ cs, wF c ≤ 13) : (cs.foldl (fun b c => bst true b (1 + wF c)) none).getD 0 = fewS cs := by
  cases cs with
  | nil => rfl
  | cons c cs =>
    have h1 := h c List.mem_cons_self
    simp only [fewS, List.isEmpty_cons, Bool.false_eq_true, if_false, List.foldl_cons]
    rw [show min 14 (wF c + 1) = 1 + wF c by omega]
    show (cs.foldl (fun b c => bst true b (1 + wF c)) (some (1 + wF c))).getD 0 = _
    rw [few_f]
    rfl
theorem kids_bd {T : TB} {L : List LY} (hV : VL T L) {tk who : Nat} {c : VT} (h : c ∈ kids T L tk who) : wN c ≤ 13 ∧ wF c ≤ 13 ∧ wM c ≤ 13 ∧ wL c ≤ 13000000 ∧ wW c ≤ 1000000000000000000 := by
  simp only [kids, List.mem_map] at h
  obtain ⟨e, he, rfl⟩ := h
  have h1 := fr_mv hV he
  have h2 := fr_le tk
  exact vl_bd hV 13 _ _ (by omega)
