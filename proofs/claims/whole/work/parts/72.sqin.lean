/-! lays stay on their boards; boards are heaps side by side -/
def inS (f al a : Nat) : Prop := ∀ i, a.testBit i = true → f ≤ i ∧ i < f + al
theorem inS.or {f al a b : Nat} (h : inS f al a) (h' : inS f al b) : inS f al (a ||| b) := fun i hi => by
  rw [Nat.testBit_or, Bool.or_eq_true] at hi
  exact hi.elim (h i) (h' i)
theorem inS.z {f al : Nat} : inS f al 0 := fun i hi => by simp at hi
theorem inS.p {f al k : Nat} (h : f ≤ k ∧ k < f + al) : inS f al (2 ^ k) := fun i hi => by
  rw [Nat.testBit_two_pow, decide_eq_true_eq] at hi
  omega
theorem inS.lt {f al a n : Nat} (h : inS f al a) (hn : f + al ≤ n) : a < 2 ^ n := Nat.lt_pow_two_of_testBit a fun i hi => by
  cases e : a.testBit i with
  | false => rfl
  | true => have := h i e; omega
theorem covR_in {p : PC} {f w x y t j H : Nat} (hy : y + j < H) : ∀ n i a, x + i + n ≤ w → inS f (w * H) a → inS f (w * H) (covR p f w x y t j n i a)
  | 0, i, a => fun _ h => h
  | n + 1, i, a => fun h1 h => by
    simp only [covR]
    refine covR_in hy n (i + 1) _ (by omega) ?_
    split
    · refine h.or (inS.p ?_)
      have : w * (y + j + 1) ≤ w * H := Nat.mul_le_mul_left w hy
      rw [Nat.mul_add, Nat.mul_one] at this
      omega
    · exact h
theorem covA_in {p : PC} {f w x y t H : Nat} (hx : x + wO p t ≤ w) : ∀ n j a, y + j + n ≤ H → inS f (w * H) a → inS f (w * H) (covA p f w x y t n j a)
  | 0, j, a => fun _ h => h
  | n + 1, j, a => fun h1 h => by
    simp only [covA]
    exact covA_in hx n (j + 1) _ (by omega) (covR_in (by omega) _ 0 _ (by omega) h)
theorem cov_in {p : PC} {b : BD} {x y t : Nat} (h : fits p b x y t = true) : inS b.2.2.1 (b.1 * b.2.1) (cov p b x y t) := by
  simp only [fits, Bool.and_eq_true, decide_eq_true_eq] at h
  exact covA_in h.1 _ 0 0 (by omega) inS.z
theorem bes1_in {sq f w h al c near : Nat} (hal : al = w * h) (hc : c < al) (hn : inS f al near) : inS f al (bes1 sq f w al c near) := by
  have hite : ∀ (q : Prop) [Decidable q] (k : Nat), (q → f ≤ k ∧ k < f + al) → inS f al (if q then 2 ^ k else 0) := by
    intro q _ k hq
    split
    · rename_i h1; exact inS.p (hq h1)
    · exact inS.z
  have hp : ∀ k, k < 14 → 2 ^ k < 2 ^ 14 := fun k hk => Nat.pow_lt_pow_right (by decide) hk
  unfold bes1
  split
  · have h3 : c / w < h := Nat.div_lt_of_lt_mul (by omega)
    have h4 : w * (c / w + 1) ≤ w * h := Nat.mul_le_mul_left w (by omega)
    have h5 := Nat.div_add_mod c w
    rw [Nat.mul_add, Nat.mul_one] at h4
    refine (((hn.or (hite _ _ fun h => ?_)).or (hite _ _ fun h => ?_)).or (hite _ _ fun h => ?_)).or (hite _ _ fun h => ?_)
    · have := Nat.mod_le c w; omega
    · omega
    · omega
    · omega
  · exact hn
theorem besN_in {sq f w h al : Nat} (hal : al = w * h) : ∀ n c near, c + n ≤ al → inS f al near → inS f al (besN sq f w al n c near)
  | 0, c, near => fun _ h => h
  | n + 1, c, near => fun h1 h2 => by
    simp only [besN]
    exact besN_in hal n (c + 1) _ (by omega) (bes1_in hal (by omega) h2)
theorem an_in {f al a b : Nat} (h : inS f al a) : inS f al (an a b) := fun i hi => by
  rw [an_bit, Bool.and_eq_true] at hi
  exact h i hi.1
theorem allL_in {T : TB} {e : LY} (h : e ∈ allL T) : ∃ b, T.2.1[e.2.1]? = some b ∧ inS b.2.2.1 (b.1 * b.2.1) (eS e) ∧ inS b.2.2.1 (b.1 * b.2.1) e.2.2.2.2.2.2 := by
  obtain ⟨i, p, k', b, y', x', t', h1, h2, h3, h4, h5, h6, h7⟩ := lpL_mem _ _ e h
  obtain ⟨g1, g2, rfl⟩ := lay1_eq h7
  exact ⟨b, h2, cov_in g1, an_in (besN_in rfl _ 0 0 (by omega) inS.z)⟩
theorem allL_lt {T : TB} (hW : WFT T) {e : LY} (h : e ∈ allL T) : eS e < 2 ^ nsq T.2.1 := by
  obtain ⟨b, h1, h2, -⟩ := allL_in h
  exact h2.lt (WFB.sq hW h1).1
theorem tkn_lt2 {T : TB} (hW : WFT T) (ls : List Nat) : tkn (allL T) ls < 2 ^ nsq T.2.1 := by
  have h : ∀ (ls : List Nat) a, a < 2 ^ nsq T.2.1 → ls.foldl (fun a n => a ||| sqN (allL T) n) a < 2 ^ nsq T.2.1 := by
    intro ls
    induction ls with
    | nil => intro a h; exact h
    | cons n ls ih =>
      intro a h
      refine ih _ (Nat.or_lt_two_pow h ?_)
      unfold sqN
      cases e : (allL T)[n]? with
      | none => exact Nat.two_pow_pos _
      | some e' => exact allL_lt hW (List.mem_of_getElem? e)
  exact h ls 0 (Nat.two_pow_pos _)
theorem sqB_bit (b : BD) (i : Nat) : (sqB b).testBit i = decide (b.2.2.1 ≤ i ∧ i < b.2.2.1 + b.1 * b.2.1) := by
  rw [sqB, Nat.mul_comm, Nat.testBit_two_pow_mul, Nat.testBit_two_pow_sub_one, Bool.eq_iff_iff]
  simp only [Bool.and_eq_true, decide_eq_true_eq]
  omega
/-- boards lie apart -/
theorem bd_apart {T : TB} (hW : WFT T) {k k' : Nat} {b b' : BD} (hk : T.2.1[k]? = some b) (hk' : T.2.1[k']? = some b') (h : k < k') : b.2.2.1 + b.1 * b.2.1 ≤ b'.2.2.1 := by
  have h1 := (hW.1.2.2 k b hk).2.2.2.2.1
  have h2 := (hW.1.2.2 k' b' hk').2.2.2.2.1
  have h3 : (T.2.1.take k')[k]? = some b := by rw [List.getElem?_take_of_lt h]; exact hk
  have h4 := nsq_split h3
  rw [List.take_take, Nat.min_eq_left (by omega)] at h4
  omega
theorem bd_ne {T : TB} (hW : WFT T) {k k' : Nat} {b b' : BD} (hk : T.2.1[k]? = some b) (hk' : T.2.1[k']? = some b') (h : k ≠ k') {a : Nat} (ha : inS b.2.2.1 (b.1 * b.2.1) a) {i : Nat} (hi : (sqB b').testBit i = true) : a.testBit i = false := by
  rw [sqB_bit, decide_eq_true_eq] at hi
  cases e : a.testBit i with
  | false => rfl
  | true =>
    have h1 := ha i e
    rcases Nat.lt_or_gt_of_ne h with h2 | h2
    · have := bd_apart hW hk hk' h2; omega
    · have := bd_apart hW hk' hk h2; omega
theorem and_0 {a b : Nat} : a &&& b = 0 ↔ ∀ i, a.testBit i = true → b.testBit i = false := by
  constructor
  · intro h i hi
    have := congrArg (fun z => z.testBit i) h
    simpa [hi] using this
  · intro h
    apply Nat.eq_of_testBit_eq
    intro i
    rw [Nat.testBit_and, Nat.zero_testBit]
    cases e : a.testBit i with
    | false => rfl
    | true => rw [h i e]; rfl
/-- room hangs on the squares of the lay's board alone -/
theorem frE_bd {T : TB} {e : LY} {b : BD} (h2 : inS b.2.2.1 (b.1 * b.2.1) (eS e)) (h3 : inS b.2.2.1 (b.1 * b.2.1) e.2.2.2.2.2.2) {tk tk' : Nat} (h : ∀ i, (sqB b).testBit i = true → tk.testBit i = tk'.testBit i) : frE T e tk = frE T e tk' := by
  have hh : ∀ a, inS b.2.2.1 (b.1 * b.2.1) a → (tk &&& a = 0 ↔ tk' &&& a = 0) := by
    intro a ha
    have hb : ∀ i, a.testBit i = true → (sqB b).testBit i = true := fun i hi => by rw [sqB_bit, decide_eq_true_eq]; exact ha i hi
    rw [Nat.and_comm, Nat.and_comm tk', and_0, and_0]
    exact ⟨fun h5 i hi => by rw [← h i (hb i hi)]; exact h5 i hi, fun h5 i hi => by rw [h i (hb i hi)]; exact h5 i hi⟩
  unfold frE
  rw [Bool.eq_iff_iff]
  simp only [Bool.and_eq_true, Bool.or_eq_true, decide_eq_true_eq]
  rw [hh _ h2, hh _ h3]
section SG
variable {T : TB}
theorem gr_bdA (hW : WFT T) {k : Nat} {b : BD} (hk : T.2.1[k]? = some b) : ∀ n tk tk', fr tk ≤ n → (∀ i, (sqB b).testBit i = true → tk.testBit i = tk'.testBit i) → gr T (allL T) (some k) tk = gr T (allL T) (some k) tk' := by
  have hV := allL_VL hW
  have hg : ∀ tk tk', (∀ i, (sqB b).testBit i = true → tk.testBit i = tk'.testBit i) → gms T (allL T) (some k) tk = gms T (allL T) (some k) tk' := by
    intro tk tk' h
    unfold gms
    apply List.filter_congr
    intro e he
    cases e1 : onB (some k) e with
    | false => rfl
    | true =>
      have e2 : e.2.1 = k := by simpa [onB] using e1
      obtain ⟨b', h1, h2, h3⟩ := allL_in he
      rw [e2, hk] at h1
      cases h1
      rw [frE_bd h2 h3 h]
  intro n
  induction n with
  | zero =>
    intro tk tk' hn h
    have h0 : gms T (allL T) (some k) tk = [] := by
      cases hm : gms T (allL T) (some k) tk with
      | nil => rfl
      | cons e es =>
        have := fr_gm hV (e := e) (kb := some k) (tk := tk) (by rw [hm]; exact List.mem_cons_self)
        omega
    rw [gr_eq hV, gr_eq hV, gks, gks, ← hg tk tk' h, h0]
    simp only [List.map_nil]
  | succ n ih =>
    intro tk tk' hn h
    rw [gr_eq hV, gr_eq hV, gks, gks, ← hg tk tk' h]
    refine congrArg mex ?_
    apply List.map_congr_left
    intro e he
    have := fr_gm hV he
    refine ih _ _ (by omega) fun i hi => ?_
    rw [Nat.testBit_or, Nat.testBit_or, h i hi]
theorem gr_and (hW : WFT T) {k : Nat} {b : BD} (hk : T.2.1[k]? = some b) (tk : Nat) : gr T (allL T) (some k) tk = gr T (allL T) (some k) (tk &&& sqB b) := gr_bdA hW hk _ _ _ (Nat.le_refl _) fun i hi => by rw [Nat.testBit_and, hi, Bool.and_true]
/-- where all others are taken -/
theorem gr_one (hW : WFT T) {k : Nat} {b : BD} (hk : T.2.1[k]? = some b) : ∀ n tk, fr tk ≤ n → (∀ k' b', T.2.1[k']? = some b' → k' ≠ k → ∀ i, (sqB b').testBit i = true → tk.testBit i = true) → gr T (allL T) none tk = gr T (allL T) (some k) tk := by
  have hV := allL_VL hW
  have hg : ∀ tk, (∀ k' b', T.2.1[k']? = some b' → k' ≠ k → ∀ i, (sqB b').testBit i = true → tk.testBit i = true) → gms T (allL T) none tk = gms T (allL T) (some k) tk := by
    intro tk h
    unfold gms
    apply List.filter_congr
    intro e he
    show (true && frE T e tk) = (decide (e.2.1 = k) && frE T e tk)
    by_cases e1 : e.2.1 = k
    · rw [decide_eq_true e1]
    · rw [decide_eq_false e1, Bool.true_and, Bool.false_and]
      obtain ⟨b', h1, h2, h3⟩ := allL_in he
      cases h4 : frE T e tk with
      | false => rfl
      | true =>
        have h5 := frE_0 h4
        have h6 := (hV.mem he).1
        exfalso
        have h7 : eS e = 0 := by
          apply Nat.eq_of_testBit_eq
          intro i
          rw [Nat.zero_testBit]
          cases h8 : (eS e).testBit i with
          | false => rfl
          | true =>
            have h9 := h _ b' h1 e1 i (by rw [sqB_bit, decide_eq_true_eq]; exact h2 i h8)
            exact absurd h8 (by rw [and_0.mp h5 i h9]; decide)
        omega
  intro n
  induction n with
  | zero =>
    intro tk hn h
    have h0 : gms T (allL T) (some k) tk = [] := by
      cases hm : gms T (allL T) (some k) tk with
      | nil => rfl
      | cons e es =>
        have := fr_gm hV (e := e) (kb := some k) (tk := tk) (by rw [hm]; exact List.mem_cons_self)
        omega
    rw [gr_eq hV, gr_eq hV, gks, gks, hg tk h, h0]
    simp only [List.map_nil]
  | succ n ih =>
    intro tk hn h
    rw [gr_eq hV, gr_eq hV, gks, gks, hg tk h]
    refine congrArg mex ?_
    apply List.map_congr_left
    intro e he
    have := fr_gm hV he
    refine ih _ (by omega) fun k' b' h1 h2 i hi => ?_
    rw [Nat.testBit_or, h k' b' h1 h2 i hi, Bool.true_or]
theorem gr_no (hW : WFT T) {k : Nat} (hk : T.2.1[k]? = none) (tk : Nat) : gr T (allL T) (some k) tk = 0 := by
  have hV := allL_VL hW
  have h0 : gms T (allL T) (some k) tk = [] := by
    cases hm : gms T (allL T) (some k) tk with
    | nil => rfl
    | cons e es =>
      obtain ⟨h1, h2, -⟩ := gms_mem (e := e) (T := T) (L := allL T) (kb := some k) (tk := tk) (by rw [hm]; exact List.mem_cons_self)
      obtain ⟨b, h3, -⟩ := allL_in h1
      have e2 : e.2.1 = k := by simpa [onB] using h2
      rw [e2, hk] at h3
      cases h3
  rw [gr_eq hV, gks, h0, List.map_nil]
  decide
theorem gr_off (hW : WFT T) {k : Nat} {e : LY} (he : e ∈ allL T) (hne : e.2.1 ≠ k) (tk : Nat) : gr T (allL T) (some k) (tk ||| eS e) = gr T (allL T) (some k) tk := by
  cases hk : T.2.1[k]? with
  | none => rw [gr_no hW hk, gr_no hW hk]
  | some b =>
    obtain ⟨b', h1, h2, -⟩ := allL_in he
    refine gr_bdA hW hk _ _ _ (Nat.le_refl _) fun i hi => ?_
    rw [Nat.testBit_or, bd_ne hW h1 hk hne h2 hi, Bool.or_false]
theorem x3_all : ((List.range 16).all fun a => (List.range 16).all fun b => (List.range 16).all fun c => (List.range (a ^^^ b ^^^ c)).all fun u => decide (a ^^^ (a ^^^ b ^^^ c) ^^^ u < a) || (decide (b ^^^ (a ^^^ b ^^^ c) ^^^ u < b) || decide (c ^^^ (a ^^^ b ^^^ c) ^^^ u < c))) = true := by decide +kernel
theorem x3 {a b c u : Nat} (ha : a < 16) (hb : b < 16) (hc : c < 16) (hu : u < a ^^^ b ^^^ c) : a ^^^ (a ^^^ b ^^^ c) ^^^ u < a ∨ b ^^^ (a ^^^ b ^^^ c) ^^^ u < b ∨ c ^^^ (a ^^^ b ^^^ c) ^^^ u < c := by
  have h := List.all_eq_true.mp (List.all_eq_true.mp (List.all_eq_true.mp (List.all_eq_true.mp x3_all a (List.mem_range.mpr ha)) b (List.mem_range.mpr hb)) c (List.mem_range.mpr hc)) u (List.mem_range.mpr hu)
  simpa only [Bool.or_eq_true, decide_eq_true_eq] using h
theorem xc {a b c : Nat} (h : a ^^^ c = b ^^^ c) : a = b := by
  have := congrArg (fun z => z ^^^ c) h
  simpa only [Nat.xor_assoc, Nat.xor_self, Nat.xor_zero] using this
def gx (T : TB) (tk : Nat) : Nat := gr T (allL T) (some 0) tk ^^^ gr T (allL T) (some 1) tk ^^^ gr T (allL T) (some 2) tk
/-- a stand of all boards is the stands of the boards together -/
theorem gr_sum (hW : WFT T) : ∀ n tk, fr tk ≤ n → gr T (allL T) none tk = gx T tk := by
  have hV := allL_VL hW
  have hb3 : ∀ e ∈ allL T, e.2.1 = 0 ∨ e.2.1 = 1 ∨ e.2.1 = 2 := by
    intro e he
    obtain ⟨b, h1, -⟩ := allL_in he
    have h2 := (List.getElem?_eq_some_iff.mp h1).1
    have h3 := hW.1.1
    omega
  intro n
  induction n with
  | zero =>
    intro tk hn
    have h0 : ∀ kb, gms T (allL T) kb tk = [] := by
      intro kb
      cases hm : gms T (allL T) kb tk with
      | nil => rfl
      | cons e es =>
        have := fr_gm hV (e := e) (kb := kb) (tk := tk) (by rw [hm]; exact List.mem_cons_self)
        omega
    unfold gx
    rw [gr_eq hV, gr_eq hV, gr_eq hV, gr_eq hV, gks, gks, gks, gks, h0, h0, h0, h0]
    simp only [List.map_nil]
    decide
  | succ n ih =>
    intro tk hn
    have hbd := fun kb => gr_le (T := T) hV kb tk
    have b0 := hbd (some 0)
    have b1 := hbd (some 1)
    have b2 := hbd (some 2)
    have hx : gx T tk < 16 := Nat.xor_lt_two_pow (n := 4) (Nat.xor_lt_two_pow (n := 4) (by omega) (by omega)) (by omega)
    -- what is behind by a lay on board k
    have hk : ∀ e ∈ allL T, frE T e tk = true → gr T (allL T) none (tk ||| eS e) = gx T (tk ||| eS e) := by
      intro e he hf
      have := fr_set (frE_0 hf) (hV.mem he).1 (hV.mem he).2
      exact ih _ (by omega)
    have hkin : ∀ k, ∀ e ∈ allL T, frE T e tk = true → e.2.1 = k → gr T (allL T) (some k) (tk ||| eS e) ∈ gks T (allL T) (some k) tk := by
      intro k e he hf hek
      unfold gks
      exact List.mem_map.mpr ⟨e, List.mem_filter.mpr ⟨he, by rw [hf]; simp [onB, hek]⟩, rfl⟩
    rw [gr_eq hV]
    refine mex_of (by omega) ?_ ?_
    · intro hc
      obtain ⟨e, he, h1⟩ := List.mem_map.mp hc
      obtain ⟨he1, -, he2⟩ := gms_mem he
      rw [hk e he1 he2] at h1
      have hne := fun k => (gr_mex hV (some k) tk).1
      unfold gx at h1
      rcases hb3 e he1 with h | h | h
      · rw [gr_off hW he1 (k := 1) (by omega), gr_off hW he1 (k := 2) (by omega)] at h1
        have := xc (xc h1)
        exact hne 0 (this ▸ hkin 0 e he1 he2 h)
      · rw [gr_off hW he1 (k := 0) (by omega), gr_off hW he1 (k := 2) (by omega)] at h1
        have := xc h1
        rw [Nat.xor_comm, Nat.xor_comm (gr T (allL T) (some 0) tk)] at this
        have := xc this
        exact hne 1 (this ▸ hkin 1 e he1 he2 h)
      · rw [gr_off hW he1 (k := 0) (by omega), gr_off hW he1 (k := 1) (by omega)] at h1
        rw [Nat.xor_comm, Nat.xor_comm (gr T (allL T) (some 0) tk ^^^ gr T (allL T) (some 1) tk)] at h1
        have := xc h1
        exact hne 2 (this ▸ hkin 2 e he1 he2 h)
    · intro u hu
      have hlt := fun k => (gr_mex hV (some k) tk).2
      have hmk : ∀ k v, v ∈ gks T (allL T) (some k) tk → ∃ e, e ∈ allL T ∧ frE T e tk = true ∧ e.2.1 = k ∧ gr T (allL T) (some k) (tk ||| eS e) = v := by
        intro k v hv
        obtain ⟨e, he, h1⟩ := List.mem_map.mp hv
        obtain ⟨he1, h2, he2⟩ := gms_mem he
        exact ⟨e, he1, he2, by simpa [onB] using h2, h1⟩
      have hin : ∀ e, e ∈ allL T → frE T e tk = true → gx T (tk ||| eS e) = u → u ∈ gks T (allL T) none tk := by
        intro e he hf h1
        rw [← h1, ← hk e he hf]
        exact List.mem_map.mpr ⟨e, List.mem_filter.mpr ⟨he, by rw [hf]; rfl⟩, rfl⟩
      have x1 : ∀ a b c u : Nat, (a ^^^ (a ^^^ b ^^^ c) ^^^ u) ^^^ b ^^^ c = u := by
        intro a b c u
        apply Nat.eq_of_testBit_eq; intro i; simp only [Nat.testBit_xor]
        cases a.testBit i <;> cases b.testBit i <;> cases c.testBit i <;> cases u.testBit i <;> rfl
      have x2 : ∀ a b c u : Nat, a ^^^ (b ^^^ (a ^^^ b ^^^ c) ^^^ u) ^^^ c = u := by
        intro a b c u
        apply Nat.eq_of_testBit_eq; intro i; simp only [Nat.testBit_xor]
        cases a.testBit i <;> cases b.testBit i <;> cases c.testBit i <;> cases u.testBit i <;> rfl
      have x3' : ∀ a b c u : Nat, a ^^^ b ^^^ (c ^^^ (a ^^^ b ^^^ c) ^^^ u) = u := by
        intro a b c u
        apply Nat.eq_of_testBit_eq; intro i; simp only [Nat.testBit_xor]
        cases a.testBit i <;> cases b.testBit i <;> cases c.testBit i <;> cases u.testBit i <;> rfl
      rcases x3 (show _ < 16 by omega) (show _ < 16 by omega) (show _ < 16 by omega) hu with h | h | h
      · obtain ⟨e, he, hf, h1, h2⟩ := hmk 0 _ (hlt 0 _ h)
        refine hin e he hf ?_
        unfold gx
        rw [h2, gr_off hW he (k := 1) (by omega), gr_off hW he (k := 2) (by omega)]
        exact x1 _ _ _ _
      · obtain ⟨e, he, hf, h1, h2⟩ := hmk 1 _ (hlt 1 _ h)
        refine hin e he hf ?_
        unfold gx
        rw [h2, gr_off hW he (k := 0) (by omega), gr_off hW he (k := 2) (by omega)]
        exact x2 _ _ _ _
      · obtain ⟨e, he, hf, h1, h2⟩ := hmk 2 _ (hlt 2 _ h)
        refine hin e he hf ?_
        unfold gx
        rw [h2, gr_off hW he (k := 0) (by omega), gr_off hW he (k := 1) (by omega)]
        exact x3' _ _ _ _
end SG
