/-! links by their numbers -/
def lf (row : ar) (k : Nat) : Bool := decide (0 < (row (118 + k)).toInt)
def nthF (f : Nat → Bool) : Nat → Nat → Nat → Option Nat
  | 0, _, _ => none
  | n + 1, k, l => if f k = true then (if l = 0 then some k else nthF f n (k + 1) (l - 1)) else nthF f n (k + 1) l
def cntF (f : Nat → Bool) : Nat → Nat → Nat
  | 0, _ => 0
  | n + 1, k => (if f k = true then 1 else 0) + cntF f n (k + 1)
theorem nth_none (f : Nat → Bool) : ∀ n k l, nthF f n k l = none ↔ cntF f n k ≤ l := by
  intro n
  induction n with
  | zero => intro k l; simp [nthF, cntF]
  | succ n ih =>
    intro k l
    unfold nthF cntF
    by_cases h : f k = true
    · simp only [h, if_true]
      by_cases hl : l = 0
      · simp [hl]
      · rw [if_neg hl, ih]; omega
    · rw [if_neg h, if_neg h, ih]; omega
theorem nth_some (f : Nat → Bool) : ∀ n k l j, nthF f n k l = some j → k ≤ j ∧ j < k + n ∧ f j = true := by
  intro n
  induction n with
  | zero => intro k l j h; simp [nthF] at h
  | succ n ih =>
    intro k l j h
    unfold nthF at h
    by_cases hf : f k = true
    · rw [if_pos hf] at h
      by_cases hl : l = 0
      · rw [if_pos hl] at h
        cases h
        exact ⟨by omega, by omega, hf⟩
      · rw [if_neg hl] at h
        have := ih _ _ _ h
        exact ⟨by omega, by omega, this.2.2⟩
    · rw [if_neg hf] at h
      have := ih _ _ _ h
      exact ⟨by omega, by omega, this.2.2⟩
theorem nth_skip (f : Nat → Bool) : ∀ m n k l, (∀ i, i < m → f (k + i) = false) → nthF f (m + n) k l = nthF f n (k + m) l := by
  intro m
  induction m with
  | zero => intro n k l h; simp
  | succ m ih =>
    intro n k l h
    rw [show m + 1 + n = (m + n) + 1 by omega, nthF]
    have h0 := h 0 (by omega)
    simp only [Nat.add_zero] at h0
    rw [if_neg (by rw [h0]; simp), ih n (k + 1) l (fun i hi => by have := h (i + 1) (by omega); rw [show k + 1 + i = k + (i + 1) by omega]; exact this)]
    rw [show k + 1 + m = k + (m + 1) by omega]
theorem cnt_le (f : Nat → Bool) : ∀ n k, cntF f n k ≤ n := by
  intro n
  induction n with
  | zero => intro k; simp [cntF]
  | succ n ih => intro k; unfold cntF; have := ih (k + 1); split <;> omega
theorem cnt_same (f g : Nat → Bool) : ∀ n k, (∀ i, k ≤ i → i < k + n → f i = g i) → cntF f n k = cntF g n k := by
  intro n
  induction n with
  | zero => intro k h; rfl
  | succ n ih =>
    intro k h
    unfold cntF
    rw [h k (by omega) (by omega), ih (k + 1) (fun i h1 h2 => h i (by omega) (by omega))]
theorem cnt_one (f g : Nat → Bool) (j : Nat) : ∀ n k, k ≤ j → j < k + n → (∀ i, i ≠ j → f i = g i) → cntF g n k + (if f j = true then 1 else 0) = cntF f n k + (if g j = true then 1 else 0) := by
  intro n
  induction n with
  | zero => intro k h1 h2; omega
  | succ n ih =>
    intro k h1 h2 h
    unfold cntF
    by_cases e : k = j
    · subst e
      rw [cnt_same f g n (k + 1) (fun i h3 _ => h i (by omega))]
      omega
    · rw [h k e]
      have := ih (k + 1) (by omega) (by omega) h
      omega
theorem linkMany_L {row : ar} : ∀ (n k a : Nat), k ≤ 36 → 36 - k < n → f_X12_linkMany_L4 row n (nI a) (nI k) = some (nI (a + cntF (lf row) (36 - k) k)) := by
  intro n
  induction n with
  | zero => intro k a h1 h2; omega
  | succ n ih =>
    intro k a h1 h2
    rw [f_X12_linkMany_L4]
    have e6 : ∀ c : Nat, (118 : Int32) + nI c = nI (118 + c) := fun c => nI_add 118 c
    by_cases hk : 36 ≤ k
    · have : k = 36 := by omega
      subst this
      rw [if_pos (by decide)]
      rfl
    · rw [if_neg (show ¬ (36 : Int32) ≤ nI k from nI_ge (a := k) (b := 36) (by omega) (by omega))]
      simp (disch := omega) only [e6, ckN, clN, nI_1, nle0]
      have hc : cntF (lf row) (36 - k) k = (if lf row k = true then 1 else 0) + cntF (lf row) (36 - (k + 1)) (k + 1) := by
        rw [show 36 - k = (36 - (k + 1)) + 1 by omega]
        rfl
      have ez : nI a + 0 = nI a := nI_add a 0
      by_cases hf : 0 < (row (118 + k)).toInt
      · rw [if_neg (fun q => q hf), ih (k + 1) (a + 1) (by omega) (by omega), hc, if_pos (show lf row k = true from decide_eq_true hf)]
        congr 2; omega
      · rw [if_pos hf, ez, ih (k + 1) a (by omega) (by omega), hc, if_neg (show ¬ lf row k = true from by unfold lf; rw [decide_eq_false hf]; simp)]
        congr 2; omega
theorem linkMany_K {row : ar} {N : Nat} (hN : 37 ≤ N) : f_X12_linkMany N row = some (nI (cntF (lf row) 36 0)) := by
  unfold f_X12_linkMany
  have := linkMany_L (row := row) N 0 0 (by omega) (by omega)
  have e4 : nI 0 = 0 := rfl
  rw [e4] at this
  rw [this]
  simp
/-- the pair of a link's number -/
def lnk (row : ar) (x : Int32) : Option Nat := if x.toInt < 0 then none else nthF (lf row) 36 0 x.toInt.toNat
def encB (r : Option Nat) : Int32 := match r with
  | none => -1
  | some v => nI v
theorem pairOfR_L {row : ar} {x1 : Int32} (h0 : ¬ x1 < 0) : ∀ (n k l : Nat), k ≤ 36 → l < 2147483648 → 36 - k < n → f_X12_pairOf_L4 row x1 n (nI l) (nI k) = some (match nthF (lf row) (36 - k) k l with | none => .inr () | some j => .inl (nI j)) := by
  intro n
  induction n with
  | zero => intro k l h1 h2 h3; omega
  | succ n ih =>
    intro k l h1 h2 h3
    rw [f_X12_pairOf_L4]
    have e6 : ∀ c : Nat, (118 : Int32) + nI c = nI (118 + c) := fun c => nI_add 118 c
    by_cases hk : 36 ≤ k
    · have : k = 36 := by omega
      subst this
      rw [if_pos (by decide)]
      rfl
    · rw [if_neg (show ¬ (36 : Int32) ≤ nI k from nI_ge (a := k) (b := 36) (by omega) (by omega)), if_neg h0]
      simp (disch := omega) only [e6, ckN, clN, nI_1, nle0]
      have hc : nthF (lf row) (36 - k) k l = if lf row k = true then (if l = 0 then some k else nthF (lf row) (36 - (k + 1)) (k + 1) (l - 1)) else nthF (lf row) (36 - (k + 1)) (k + 1) l := by
        rw [show 36 - k = (36 - (k + 1)) + 1 by omega]
        rfl
      by_cases hf : 0 < (row (118 + k)).toInt
      · rw [if_neg (fun q => q hf), hc, if_pos (show lf row k = true from decide_eq_true hf)]
        by_cases hl : l = 0
        · subst hl
          rw [if_pos (by rfl), if_pos rfl]
        · rw [if_neg (show ¬ nI l = 0 from nI_ne0 (by omega) (by omega)), if_neg hl]
          obtain ⟨q, rfl⟩ : ∃ q, l = q + 1 := ⟨l - 1, by omega⟩
          rw [pk_m1, ih (k + 1) q (by omega) (by omega) (by omega)]
          rfl
      · rw [if_pos hf, hc, if_neg (show ¬ lf row k = true from by unfold lf; rw [decide_eq_false hf]; simp), ih (k + 1) l (by omega) (by omega) (by omega)]
theorem pairOfR_K {row : ar} {N : Nat} (hN : 37 ≤ N) (x : Int32) : f_X12_pairOf N row x = some (enc (lnk row x)) := by
  unfold f_X12_pairOf lnk
  by_cases h0 : x < 0
  · have h1 : x.toInt < 0 := by have := Int32.lt_iff_toInt_lt.mp h0; rw [i0] at this; exact this
    rw [if_pos h1]
    obtain ⟨n, rfl⟩ : ∃ n, N = n + 1 := ⟨N - 1, by omega⟩
    rw [f_X12_pairOf_L4, if_neg (by decide), if_pos h0]
    rfl
  · have h1 : ¬ x.toInt < 0 := fun q => h0 (Int32.lt_iff_toInt_lt.mpr (by rw [i0]; exact q))
    rw [if_neg h1]
    have hx := idxN (x := x) (by omega)
    have hlt := x.toInt_lt
    have := pairOfR_L (row := row) h0 N 0 x.toInt.toNat (by omega) (by omega) (by omega)
    rw [← hx] at this
    have e4 : nI 0 = 0 := rfl
    rw [e4] at this
    rw [this]
    cases nthF (lf row) (36 - 0) 0 x.toInt.toNat with
    | none => rfl
    | some j => rfl
theorem LK.up {nd : Nat} {dl row : ar} (h : LK nd dl row) {u v : Nat} (hv : v < 6) (huv : u < v) : dl (6 * u + v) = row (118 + (6 * u + v)) := by
  have := h.1 u v (by omega) hv (by omega)
  rw [this]
  unfold pr
  rw [if_neg (by omega)]
theorem LK.low {nd : Nat} {dl row : ar} (h : LK nd dl row) {u v : Nat} (hu : u < 6) (hv : v ≤ u) : lf row (6 * u + v) = false := by
  unfold lf
  rw [h.2.2.1 u v hu (by omega) hv]
  rfl
theorem pairOfC_L29 {nd : Nat} {dl row : ar} (hK : LK nd dl row) {u l : Nat} (hu : u < 6) (hl : l < 2147483648) : ∀ (n v a : Nat), u < v → v ≤ 6 → a ≤ l → 6 - v < n → (∃ k, f_X3_pairOf_L29 dl (nI l) (nI u) n (nI a) (nI v) = some (.inl (.inl (nI k))) ∧ nthF (lf row) (36 - (6 * u + v)) (6 * u + v) (l - a) = some k) ∨ (∃ a', a ≤ a' ∧ a' ≤ l ∧ f_X3_pairOf_L29 dl (nI l) (nI u) n (nI a) (nI v) = some (.inr (nI a')) ∧ nthF (lf row) (36 - (6 * u + v)) (6 * u + v) (l - a) = nthF (lf row) (36 - (6 * u + 6)) (6 * u + 6) (l - a')) := by
  intro n
  induction n with
  | zero => intro v a h1 h2 h3 h4; omega
  | succ n ih =>
    intro v a h1 h2 h3 h4
    rw [f_X3_pairOf_L29]
    by_cases hv : 6 ≤ v
    · have : v = 6 := by omega
      subst this
      rw [if_pos (by decide)]
      exact Or.inr ⟨a, by omega, h3, rfl, rfl⟩
    · rw [if_neg (show ¬ (6 : Int32) ≤ nI v from nI_ge (a := v) (b := 6) (by omega) (by omega)), delayOf_N hu (by omega), Option.bind_some, hK.up (by omega) h1]
      have hc : nthF (lf row) (36 - (6 * u + v)) (6 * u + v) (l - a) = if lf row (6 * u + v) = true then (if l - a = 0 then some (6 * u + v) else nthF (lf row) (36 - (6 * u + (v + 1))) (6 * u + (v + 1)) (l - a - 1)) else nthF (lf row) (36 - (6 * u + (v + 1))) (6 * u + (v + 1)) (l - a) := by
        rw [show 36 - (6 * u + v) = (36 - (6 * u + (v + 1))) + 1 by omega]
        rfl
      by_cases hf : 0 < (row (118 + (6 * u + v))).toInt
      · rw [if_neg (show ¬ row (118 + (6 * u + v)) ≤ 0 from by rw [nle0]; exact fun q => q hf), hc, if_pos (show lf row (6 * u + v) = true from decide_eq_true hf)]
        by_cases ha : a = l
        · subst ha
          rw [if_pos rfl, pairCell_N, Option.bind_some, if_pos (by omega)]
          exact Or.inl ⟨_, rfl, rfl⟩
        · rw [if_neg (fun e => ha ((nI_eq (by omega) (by omega)).mp e)), if_neg (by omega), nI_1, nI_1]
          have := ih (v + 1) (a + 1) (by omega) (by omega) (by omega) (by omega)
          rw [show l - a - 1 = l - (a + 1) by omega]
          rcases this with ⟨k, h5, h6⟩ | ⟨a', h5, h6, h7, h8⟩
          · exact Or.inl ⟨k, h5, h6⟩
          · exact Or.inr ⟨a', by omega, h6, h7, h8⟩
      · rw [if_pos (show row (118 + (6 * u + v)) ≤ 0 from by rw [nle0]; exact hf), hc, if_neg (show ¬ lf row (6 * u + v) = true from by unfold lf; rw [decide_eq_false hf]; simp), nI_1]
        exact ih (v + 1) a (by omega) (by omega) h3 (by omega)
theorem pairOfC_L18 {nd N : Nat} {dl row : ar} (hK : LK nd dl row) (hN : 7 ≤ N) {l : Nat} (hl : l < 2147483648) : ∀ (n u a : Nat), u ≤ 6 → a ≤ l → 6 - u < n → (∃ k, f_X3_pairOf_L18 dl (nI l) N n (nI a) (nI u) = some (.inl (nI k)) ∧ nthF (lf row) (36 - 6 * u) (6 * u) (l - a) = some k) ∨ (f_X3_pairOf_L18 dl (nI l) N n (nI a) (nI u) = some (.inr ()) ∧ nthF (lf row) (36 - 6 * u) (6 * u) (l - a) = none) := by
  intro n
  induction n with
  | zero => intro u a h1 h2 h3; omega
  | succ n ih =>
    intro u a h1 h2 h3
    rw [f_X3_pairOf_L18]
    by_cases hu : 6 ≤ u
    · have : u = 6 := by omega
      subst this
      rw [if_pos (by decide)]
      exact Or.inr ⟨rfl, rfl⟩
    · rw [if_neg (show ¬ (6 : Int32) ≤ nI u from nI_ge (a := u) (b := 6) (by omega) (by omega)), nI_1]
      have hs : nthF (lf row) (36 - 6 * u) (6 * u) (l - a) = nthF (lf row) (36 - (6 * u + (u + 1))) (6 * u + (u + 1)) (l - a) := by
        have := nth_skip (lf row) (u + 1) (36 - (6 * u + (u + 1))) (6 * u) (l - a) (fun i hi => hK.low (by omega) (by omega))
        rw [← this]
        congr 1
        omega
      rw [hs]
      rcases pairOfC_L29 hK (u := u) (l := l) (by omega) hl N (u + 1) a (by omega) (by omega) h2 (by omega) with ⟨k, h5, h6⟩ | ⟨a', h5, h6, h7, h8⟩
      · rw [h5, h6]
        exact Or.inl ⟨k, rfl, rfl⟩
      · rw [h7, h8]
        have := ih (u + 1) a' (by omega) h6 (by omega)
        rw [show 6 * (u + 1) = 6 * u + 6 by omega] at this
        exact this
theorem pairOfC_K {nd N : Nat} {dl row : ar} (hK : LK nd dl row) (hN : 37 ≤ N) {lt : Int32} (hlt : lt = nI (cntF (lf row) 36 0)) (x : Int32) : f_X3_pairOf N dl lt x = some (encB (lnk row x)) := by
  unfold f_X3_pairOf lnk
  have hle := cnt_le (lf row) 36 0
  by_cases h0 : x < 0
  · have h1 : x.toInt < 0 := by have := Int32.lt_iff_toInt_lt.mp h0; rw [i0] at this; exact this
    rw [if_pos h1, if_pos h0]
    rfl
  · have h1 : ¬ x.toInt < 0 := fun q => h0 (Int32.lt_iff_toInt_lt.mpr (by rw [i0]; exact q))
    rw [if_neg h1, if_neg h0]
    have hx := idxN (x := x) (by omega)
    have hlx := x.toInt_lt
    generalize hq : x.toInt.toNat = l at hx
    have hl : l < 2147483648 := by omega
    subst hx
    rw [hlt]
    by_cases hc : cntF (lf row) 36 0 ≤ l
    · rw [if_neg (nI_nlt hc (by omega))]
      rw [(nth_none (lf row) 36 0 l).mpr hc]
      rfl
    · rw [if_pos (nI_lt (by omega) (by omega))]
      have hne : nthF (lf row) 36 0 l ≠ none := fun e => hc ((nth_none _ _ _ _).mp e)
      rcases pairOfC_L18 hK (N := N) (by omega) hl N 0 0 (by omega) (by omega) (by omega) with ⟨k, h5, h6⟩ | ⟨h5, h6⟩
      · have e4 : nI 0 = 0 := rfl
        rw [e4] at h5
        simp only [Nat.mul_zero, Nat.sub_zero] at h6
        rw [h5, h6]
        rfl
      · simp only [Nat.mul_zero, Nat.sub_zero] at h6
        exact absurd h6 hne
theorem lnk_some {row : ar} {x : Int32} {k : Nat} (h : lnk row x = some k) : k < 36 ∧ 0 < (row (118 + k)).toInt := by
  unfold lnk at h
  split at h
  · cases h
  · have := nth_some _ _ _ _ _ h
    refine ⟨by omega, ?_⟩
    have h2 := this.2.2
    unfold lf at h2
    exact of_decide_eq_true h2
/-- a link's pair: its lower node first -/
theorem LK.pair {nd : Nat} {dl row : ar} (h : LK nd dl row) {k : Nat} (hk : k < 36) (hp : 0 < (row (118 + k)).toInt) : k / 6 < k % 6 ∧ k % 6 < 6 ∧ k = 6 * (k / 6) + k % 6 ∧ dl k = row (118 + k) ∧ k / 6 < nd ∧ k % 6 < nd := by
  have h1 : k = 6 * (k / 6) + k % 6 := by omega
  have h2 : k % 6 < 6 := by omega
  have h3 : k / 6 < k % 6 := by
    by_cases hc : k / 6 < k % 6
    · exact hc
    · have := h.2.2.1 (k / 6) (k % 6) (by omega) h2 (by omega)
      rw [← h1] at this
      rw [this, i0] at hp
      omega
  have h4 : dl k = row (118 + k) := by
    have := h.up h2 h3
    rw [← h1] at this
    exact this
  have h5 : ¬ (nd ≤ k / 6 ∨ nd ≤ k % 6) := by
    intro q
    have := h.2.2.2.2 (k / 6) (k % 6) (by omega) h2 q
    rw [← h1, h4] at this
    rw [this, i0] at hp
    omega
  exact ⟨h3, h2, h1, h4, by omega, by omega⟩
