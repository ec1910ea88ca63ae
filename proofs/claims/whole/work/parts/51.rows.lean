/-! ROWS: the sizes as a table, held against their definition by computing; laySizes in the model -/
def szT : Nat → Nat
  | 1 => 335173757868627118967249282208407213469843147356569652377321724612426526256089500682134390245378958554086310199039107511299986795133470668574297636745214461120142882496945641772702235935479840215146171875755119452076854467797419904099019947482371469468502724619715884032388811938303011122962445140000
  | 2 => 42871155704833059567243153807189611341137622311649601284394281981405505027909314492577716672279571404506872349694644987514078263125583322654373808040106240939313771808265864888956110694148923099613246927693758346948809382114630858063090181631397289112921088922485644032303864201235002688827103696159744
  | 3 => 129430248306759870737407758537074772710237311505857716081176112945540759986705883655594406825760632122335735214433027107018989023142684662794347328478593103779402601030762375064037230371348285225225448881748475201296917550187265836298025353052299538864307587051289562991423192679662197060803857266802688
  | 4 => 132642410314908511879067646599169755191513895781337871225305662903204951152034833588066637118842640102306563594537084537066149556875076526544389684016158013331405892636387351313132167328255263197478317389392938464907807762962125929661870951767549594733922630759338056952453110585370749181797684510457856
  | 5 => 176624070843602531820127449109405087366314463829286790033079900309273883579008207432108605459435814488105535761533420606820400827399705678258790771265030672279264592694912942257097503717423128856146636689795126371438371961362825223850530570523047584247062946965369628669569807301951920878907164343664640
  | 6 => 54270460313071546699283115486587031530026410135873491460674262037634315445650885663680432320681397125381052020528193977524999252698057897583801925497155032063466507869472418873122686023112747951811183674902317167959983915161966374135568680109540102774987563754236656479951393844805600214228751813181440
  | 7 => 55303669998105557165617055759179158453804512257717148507128139575998297684254391014568997351561204142198182177800674789530507164443219749111928135544047830657863855129751739119299339790055389054914547255058116841019956925444123788013219645046687558512167527477111623361570909844968389948724645086625792
  | 8 => 87103280326080550964548932813562655479477524305925464559211865895245908080917082965840377253152957011930108570302655160289545135351594240112627909535740302572955459344196340088379485761012788420617669262428191416013963454508931669426780808507941133269068404201208266142462955248840614104397001686777856
  | 9 => 32890561581474257684451885149357843013469959436967314358324890233905986946091857252018669004548850765135611398897771640094992647674403025227733687609617759155966135830153508750635072388290032197816278647113862474187532775503464613951426485375523851363265842802629502363913958315492455132804082846138368
  | _ => 0
def sz (k n : Nat) : Nat := (szT k >>> (5 * n)) % 32
theorem sz_lt (k n : Nat) : sz k n < 32 := Nat.mod_lt _ (by decide)
/-- what one lay can make, as bits: the model's half, the class's whole -/
def opM (k n : Nat) : Nat → Nat → Nat → Nat
  | 0, _, a => a
  | r + 1, i, a => if i + k ≤ n ∧ 2 * i ≤ n - k then opM k n r (i + 1) (a ||| 2 ^ (sz k i ^^^ sz k (n - k - i))) else a
def opC (k n : Nat) : Nat → Nat → Nat → Nat
  | 0, _, a => a
  | r + 1, i, a => if i + k ≤ n then opC k n r (i + 1) (a ||| 2 ^ (sz k i ^^^ sz k (n - k - i))) else a
def okS (a v : Nat) : Bool := a % 2 ^ (v + 1) == 2 ^ v - 1
theorem szM_all : ((List.range 9).all fun k => (List.range 201).all fun n => okS (opM (k + 1) n 102 0 0) (sz (k + 1) n)) = true := by decide +kernel
theorem szC_all : ((List.range 9).all fun k => (List.range 201).all fun n => okS (opC (k + 1) n 202 0 0) (sz (k + 1) n)) = true := by decide +kernel
theorem okS_bit {a v : Nat} (h : okS a v = true) : a.testBit v = false ∧ ∀ u, u < v → a.testBit u = true := by
  have h1 : a % 2 ^ (v + 1) = 2 ^ v - 1 := by simpa [okS] using h
  have h2 : ∀ i, (decide (i < v + 1) && a.testBit i) = decide (i < v) := fun i => by
    rw [← Nat.testBit_mod_two_pow, h1, Nat.testBit_two_pow_sub_one]
  refine ⟨?_, fun u hu => ?_⟩
  · have := h2 v
    simpa using this
  · have := h2 u
    rw [decide_eq_true (show u < v + 1 by omega), decide_eq_true hu] at this
    simpa using this
theorem szM {k n : Nat} (h1 : 1 ≤ k) (h9 : k ≤ 9) (hn : n ≤ 200) : (opM k n 102 0 0).testBit (sz k n) = false ∧ ∀ u, u < sz k n → (opM k n 102 0 0).testBit u = true := by
  have h := List.all_eq_true.mp (List.all_eq_true.mp szM_all (k - 1) (List.mem_range.mpr (by omega))) n (List.mem_range.mpr (by omega))
  rw [show k - 1 + 1 = k by omega] at h
  exact okS_bit h
theorem szC {k n : Nat} (h1 : 1 ≤ k) (h9 : k ≤ 9) (hn : n ≤ 200) : (opC k n 202 0 0).testBit (sz k n) = false ∧ ∀ u, u < sz k n → (opC k n 202 0 0).testBit u = true := by
  have h := List.all_eq_true.mp (List.all_eq_true.mp szC_all (k - 1) (List.mem_range.mpr (by omega))) n (List.mem_range.mpr (by omega))
  rw [show k - 1 + 1 = k by omega] at h
  exact okS_bit h
theorem xor_lt32 {a b : Nat} (ha : a < 32) (hb : b < 32) : a ^^^ b < 32 := Nat.xor_lt_two_pow (n := 5) ha hb
theorem opM_lt (k n : Nat) : ∀ r i a, a < 2 ^ 32 → opM k n r i a < 2 ^ 32
  | 0, _, a => fun h => h
  | r + 1, i, a => fun h => by
    simp only [opM]
    split
    · exact opM_lt k n r (i + 1) _ (lt_two h (xor_lt32 (sz_lt _ _) (sz_lt _ _)))
    · exact h
/-- the least start of a period, the least period -/
def dn (k p : Nat) : Nat → Nat
  | 0 => 0
  | M + 1 => if sz k M = sz k (M + p) then dn k p M else M + 1
def stP (k p : Nat) : Nat := dn k p (201 - p)
theorem dn_le (k p : Nat) : ∀ M, dn k p M ≤ M
  | 0 => Nat.le_refl _
  | M + 1 => by
    simp only [dn]
    split
    · exact Nat.le_succ_of_le (dn_le k p M)
    · exact Nat.le_refl _
/-- the first of n from k on -/
def fst1 (p : Nat → Bool) : Nat → Nat → Option Nat
  | 0, _ => none
  | n + 1, k => if p k then some k else fst1 p n (k + 1)
theorem fst1_some {p : Nat → Bool} : ∀ n k x, fst1 p n k = some x → k ≤ x ∧ x < k + n ∧ p x = true
  | 0, k, x => fun h => by cases h
  | n + 1, k, x => fun h => by
    simp only [fst1] at h
    split at h
    · rename_i h1
      cases h
      exact ⟨Nat.le_refl _, by omega, h1⟩
    · have := fst1_some n (k + 1) x h
      exact ⟨by omega, by omega, this.2.2⟩
def perP (k : Nat) : Option Nat := fst1 (fun p => decide (stP k p ≤ 100)) 60 1
def rlP (n k v : Nat) : Option Nat := fst1 (fun i => decide (sz k i ^^^ sz k (n - k - i) = v)) (n + 1 - k) 0
section ROWM
variable {l : Launch} {G : GG} {d m : Nat} {A : Nat → Nat} {S : MS} {ρ : Hp}
theorem s_X12_laySizes (hA : okA m A) {k : Nat} (h1 : 1 ≤ k) (h9 : k ≤ 9) {K : Hp → Prop} (hK : ∀ S', Sm [] [] [39] S S' → (∀ n, n ≤ 200 → S'.2.2.1 39 n = nI (sz k n)) → K (mh m A S' ρ)) : C_X12_laySizes l G (d + 1) m (nI k) (mh m A S ρ) K := by
  refine m_X12_laySizes rv_m ?_
  simp only [F_X12_laySizes]
  have hz2 : ∀ r n S', n + r = 201 → Sm [] [] [39] S S' → (∀ j, j < n → S'.2.2.1 39 j = nI (sz k j)) → Z_X12_laySizes_2 l G d K (r + 1) m (nI k) (nI n) (mh m A S' ρ) := by
    intro r
    induction r with
    | zero =>
      intro n S' hn hS hj
      simp only [Z_X12_laySizes_2, F_X12_laySizes_2]
      rw [show (201 : Int32) = nI 201 from rfl, nt_le (by omega) (by omega)]
      exact ⟨fun _ => hK S' hS fun j h => hj j (by omega), fun hc => absurd (by omega) hc⟩
    | succ r ih =>
      intro n S' hn hS hj
      obtain ⟨hm1, hm2⟩ := szM h1 h9 (show n ≤ 200 by omega)
      have hbl := opM_lt k n 102 0 0 (by decide)
      have hsl := sz_lt k n
      generalize hOP : opM k n 102 0 0 = OP at hm1 hm2 hbl
      have h94 : ∀ q v, v + q = sz k n → Z_X12_laySizes_94 l G d (Z_X12_laySizes_2 l G d K (r + 1)) K (q + 1) m (nI k) (nI n) (lN (OP)) (lN 0) (nI v) (mh m A S' ρ) := by
        have h107 : ∀ v q, v + q = sz k n → (∀ q', q = q' + 1 → Z_X12_laySizes_94 l G d (Z_X12_laySizes_2 l G d K (r + 1)) K (q' + 1) m (nI k) (nI n) (lN (OP)) (lN 0) (nI (v + 1)) (mh m A S' ρ)) → Z_X12_laySizes_94 l G d (Z_X12_laySizes_2 l G d K (r + 1)) K (q + 1) m (nI k) (nI n) (lN (OP)) (lN 0) (nI v) (mh m A S' ρ) := by
          intro v q hv hq
          simp only [Z_X12_laySizes_94, F_X12_laySizes_94, F_X12_laySizes_107]
          rw [show (64 : Int32) = nI 64 from rfl, nt_le (by omega) (by omega), nt_rem (by omega) (by decide) (by decide), Nat.mod_eq_of_lt (show v < 64 by omega), lgbit (n := OP) (k := v) (by omega) (by omega)]
          refine ⟨fun hc => by omega, fun _ => ⟨by decide, fun h5 => ?_, fun h5 => ?_⟩⟩
          · have hv2 : v = sz k n := by
              rcases Nat.lt_or_ge v (sz k n) with h6 | h6
              · exact absurd (hm2 v h6) h5
              · omega
            subst hv2
            simp only [mfN_39, msI_39 hA, nI_clamp (show n < 2 ^ 31 by omega), show nI n + 1 = nI (n + 1) from nt_add n 1]
            refine ⟨(nt_in (by omega)).mpr (by omega), ih (n + 1) _ (by omega) (hS.a (by decide)) fun j hj2 => ?_⟩
            simp only [ms_i, ms_i2, ms_b1, ms_b, ms_b2, ms_a1, ms_a2, ms_a, ms_a3, ms_j1, ms_j2, ms_j3, ms_j, ↓reduceIte, Nat.reduceEqDiff]
            by_cases e : j = n
            · subst e; rw [up_eq]
            · rw [up_ne e]; exact hj j (by omega)
          · have hv2 : v ≠ sz k n := by
              intro e
              rw [e, hm1] at h5
              exact absurd h5 (by decide)
            obtain ⟨q', rfl⟩ : ∃ q', q = q' + 1 := ⟨q - 1, by omega⟩
            rw [show nI v + 1 = nI (v + 1) from nt_add v 1]
            exact hq q' rfl
        intro q
        induction q with
        | zero =>
          intro v hv
          exact h107 v 0 hv fun q' h => by omega
        | succ q ihq =>
          intro v hv
          refine h107 v (q + 1) hv fun q' h => ?_
          obtain rfl : q' = q := by omega
          exact ihq (v + 1) (by omega)
      have h17 : ∀ q i a, i + q = 102 → a < 2 ^ 32 → opM k n q i a = OP → Z_X12_laySizes_17 l G d (Z_X12_laySizes_2 l G d K (r + 1)) K (q + 1) m (nI k) (nI n) (lN a) (lN 0) (nI i) (mh m A S' ρ) := by
        intro q
        induction q with
        | zero =>
          intro i a hi ha hop
          simp only [opM] at hop
          subst hop
          simp only [Z_X12_laySizes_17, F_X12_laySizes_17, F_X12_laySizes_91, nt_add]
          rw [nt_lt (by omega) (by omega)]
          refine ⟨fun _ => ⟨_, h94 (sz k n) 0 (by omega)⟩, fun h5 => ?_⟩
          rw [nt_sub (by omega) (by omega), show (2 : Int32) = nI 2 from rfl, nt_mul, nt_lt (by omega) (by omega)]
          exact ⟨fun _ => ⟨_, h94 (sz k n) 0 (by omega)⟩, fun h6 => by omega⟩
        | succ q ihq =>
          intro i a hi ha hop
          simp only [opM] at hop
          rw [show q + 1 + 1 = (q + 1) + 1 from rfl, Z_X12_laySizes_17]
          simp only [F_X12_laySizes_17, F_X12_laySizes_85, F_X12_laySizes_91, nt_add]
          rw [nt_lt (by omega) (by omega)]
          refine ⟨fun h5 => ?_, fun h5 => ?_⟩
          · rw [if_neg (by omega)] at hop
            subst hop
            exact ⟨_, h94 (sz k n) 0 (by omega)⟩
          · rw [nt_sub (b := k) (by omega) (by omega), show (2 : Int32) = nI 2 from rfl, nt_mul, nt_lt (by omega) (by omega)]
            refine ⟨fun h6 => ?_, fun h6 => ?_⟩
            · rw [if_neg (by omega)] at hop
              subst hop
              exact ⟨_, h94 (sz k n) 0 (by omega)⟩
            · rw [if_pos (by omega)] at hop
              have hx := xor_lt32 (sz_lt k i) (sz_lt k (n - k - i))
              rw [nt_sub (b := i) (by omega) (by omega)]
              simp only [mfN_39, mgI_39 hA, nI_clamp (show i < 2 ^ 31 by omega), nI_clamp (show n - k - i < 2 ^ 31 by omega), hj i (by omega), hj (n - k - i) (by omega), nt_xor]
              rw [show (64 : Int32) = nI 64 from rfl, nt_le (by omega) (by omega), show nI i + 1 = nI (i + 1) from nt_add i 1, lgone (by omega) (by omega)]
              exact ⟨(nt_in (by omega)).mpr (by omega), (nt_in (by omega)).mpr (by omega), fun hc => by omega, fun _ => ihq (i + 1) _ (by omega) (lt_two ha hx) hop⟩
      rw [show r + 1 + 1 = (r + 1) + 1 from rfl, Z_X12_laySizes_2]
      simp only [F_X12_laySizes_2]
      rw [show (201 : Int32) = nI 201 from rfl, nt_le (by omega) (by omega)]
      exact ⟨fun hc => by omega, fun _ => ⟨_, h17 102 0 0 (by omega) (by decide) hOP⟩⟩
  exact ⟨_, hz2 201 0 S (by omega) Sm.rf fun j hj => by omega⟩
end ROWM
