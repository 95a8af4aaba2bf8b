/-! pure part: numbers -/
theorem litN (k : Nat) : (no_index (OfNat.ofNat k) : Int32) = nI k := rfl
theorem ckN {α : Type} {a n : Nat} {x : Option α} (h : a < n) (hn : n < 2147483648) : ck (inb (nI a) n) x = x := by
  have e : inb (nI a) n = true := decide_eq_true (vp_in_nI h hn)
  rw [e]; rfl
theorem clN {a : Nat} (h : a < 2147483648) : (nI a).toNatClampNeg = a := nI_clamp h
theorem leN {a b : Nat} (ha : a < 2147483648) (hb : b < 2147483648) : (nI a ≤ nI b) = (a ≤ b) := propext (nI_leI ha hb)
theorem ltN {a b : Nat} (ha : a < 2147483648) (hb : b < 2147483648) : (nI a < nI b) = (a < b) := propext (nI_ltI ha hb)
theorem eqN {a b : Nat} (ha : a < 2147483648) (hb : b < 2147483648) : (nI a = nI b) = (a = b) := propext (nI_eq ha hb)
theorem negN {a : Nat} (h : 0 < a) (ha : a < 2147483648) (b : Nat) (hb : b < 2147483648) : (nI b = -nI a) = False := by
  apply propext
  constructor
  · intro e
    have h1 : (nI b).toInt = (-nI a).toInt := by rw [e]
    rw [nI_toInt hb, sb_negT ha] at h1
    omega
  · intro e; exact e.elim
theorem lt0N (a : Nat) (ha : a < 2147483648) : (nI a < nI 0) = False := by
  rw [ltN ha (by omega)]; simp
theorem idxN {x : Int32} (h0 : 0 ≤ x.toInt) : x = nI x.toInt.toNat := by
  apply Int32.toInt_inj.mp
  have h1 := x.toInt_lt
  rw [nI_toInt (by omega)]
  omega
/-- an int is below 0, or a node's number, or too large -/
theorem node_cases (x : Int32) (n : Nat) (hn : n < 2147483648) : x.toInt < 0 ∨ (∃ k : Nat, k < n ∧ x = nI k) ∨ (n : Int) ≤ x.toInt := by
  by_cases h0 : x.toInt < 0
  · exact Or.inl h0
  · by_cases h1 : x.toInt < n
    · refine Or.inr (Or.inl ⟨x.toInt.toNat, by omega, idxN (by omega)⟩)
    · exact Or.inr (Or.inr (by omega))
theorem pairCell_N (u v : Nat) : f_X11_pairCell (nI u) (nI v) = some (nI (6 * u + v)) := by
  simp only [f_X11_pairCell, litN, nI_add, pk_mul, Nat.mul_comm]
theorem guessCell_N (u d v : Nat) : f_X11_guessCell (nI u) (nI d) (nI v) = some (nI (36 * u + 6 * d + v)) := by
  simp only [f_X11_guessCell, litN, nI_add, pk_mul]
  congr 2
  omega
theorem delayOf_N {dl : ar} {u v : Nat} (hu : u < 6) (hv : v < 6) : f_X3_delayOf dl (nI u) (nI v) = some (dl (6 * u + v)) := by
  simp (disch := omega) only [f_X3_delayOf, pairCell_N, Option.bind_some, ckN, clN]
def pr (u v : Nat) : Nat := if v ≤ u then 6 * v + u else 6 * u + v
theorem pr_lt {u v : Nat} (hu : u < 6) (hv : v < 6) : pr u v < 36 := by unfold pr; split <;> omega
theorem pair_N {u v : Nat} (hu : u < 6) (hv : v < 6) : f_X12_pair (nI u) (nI v) = some (nI (pr u v)) := by
  simp (disch := omega) only [f_X12_pair, litN, nI_add, pk_mul, leN, pr]
  split <;> rfl
theorem delay_N {now : ar} {u v : Nat} (hu : u < 6) (hv : v < 6) : f_X12_delay now (nI u) (nI v) = some (if u = v then 0 else now (118 + pr u v)) := by
  have h1 := pr_lt hu hv
  simp (disch := omega) only [f_X12_delay, pair_N hu hv, Option.bind_some, litN, nI_add, ckN, clN, eqN]
  split <;> rfl
theorem guessAt_N (u d v : Nat) : f_X12_guessAt (nI u) (nI d) (nI v) = some (nI (36 * u + 6 * d + v)) := by
  simp only [f_X12_guessAt, litN, nI_add, pk_mul]
theorem in_N (x : Int32) (lo hi : Nat) (hlo : lo < 2147483648) (hhi : hi < 2147483648) : f_X12_in x (nI lo) (nI hi) = some (decide ((lo : Int) ≤ x.toInt ∧ x.toInt ≤ hi)) := by
  unfold f_X12_in
  simp only [Int32.lt_iff_toInt_lt, nI_toInt hlo, nI_toInt hhi]
  split
  · rw [decide_eq_false (by omega)]
  · split
    · rw [decide_eq_false (by omega)]
    · rw [decide_eq_true (by omega)]
theorem isNodeR_N (x : Int32) {n : Nat} (h0 : 0 < n) (hn : n < 2147483648) : f_X12_isNode (nI n) x = some (decide (0 ≤ x.toInt ∧ x.toInt < n)) := by
  obtain ⟨k, rfl⟩ : ∃ k, n = k + 1 := ⟨n - 1, by omega⟩
  have e : nI (k + 1) - nI 1 = nI k := nI_pred k
  simp only [f_X12_isNode, litN, e, in_N x 0 k (by omega) (by omega), Option.bind_some]
  congr 1
  apply decide_eq_decide.mpr
  omega
theorem isNodeC_N (x : Int32) {n : Nat} (hn : n < 2147483648) : f_X11_isNode (nI n) x = some (decide (0 ≤ x.toInt ∧ x.toInt < n)) := by
  unfold f_X11_isNode
  simp only [Int32.lt_iff_toInt_lt, Int32.le_iff_toInt_le, nI_toInt hn]
  have e : (0 : Int32).toInt = 0 := rfl
  rw [e]
  split
  · rw [decide_eq_false (by omega)]
  · split
    · rw [decide_eq_false (by omega)]
    · rw [decide_eq_true (by omega)]
theorem b2i_d {p : Prop} [Decidable p] : (b2i (decide p) = 0) = ¬ p := by
  by_cases h : p
  · simp [h, b2i]
  · simp [h, b2i]
/-- both sides ask for two unlike nodes -/
theorem unlikeC_N {n : Nat} (hn : n < 2147483648) (x y : Int32) : f_X11_areUnlike (nI n) x y = some (decide ((0 ≤ x.toInt ∧ x.toInt < n) ∧ (0 ≤ y.toInt ∧ y.toInt < n) ∧ x ≠ y)) := by
  simp only [f_X11_areUnlike, isNodeC_N _ hn, Option.bind_some, b2i_d]
  split
  · rw [decide_eq_false (fun h => by omega)]
  · split
    · rw [decide_eq_false (fun h => by omega)]
    · split
      · rename_i h; rw [decide_eq_false (fun h2 => h2.2.2 h)]
      · rename_i h1 h2 h3; rw [decide_eq_true ⟨by omega, by omega, h3⟩]
/-! least of several, the lowest of these -/
def IsM (P : Nat → Prop) (G : Nat → Int) (lo hi : Nat) (r : Option Nat) : Prop := match r with
  | none => ∀ v, lo ≤ v → v < hi → ¬ P v
  | some x => lo ≤ x ∧ x < hi ∧ P x ∧ ∀ v, lo ≤ v → v < hi → P v → G x ≤ G v ∧ (v < x → G x < G v)
theorem IsM.uniq {P : Nat → Prop} {G : Nat → Int} {lo hi : Nat} {r r' : Option Nat} (h : IsM P G lo hi r) (h' : IsM P G lo hi r') : r = r' := by
  cases r with
  | none =>
    cases r' with
    | none => rfl
    | some y => exact absurd h'.2.2.1 (h y h'.1 h'.2.1)
  | some x =>
    cases r' with
    | none => exact absurd h.2.2.1 (h' x h.1 h.2.1)
    | some y =>
      have h1 := h.2.2.2 y h'.1 h'.2.1 h'.2.2.1
      have h2 := h'.2.2.2 x h.1 h.2.1 h.2.2.1
      congr 1
      rcases Nat.lt_trichotomy x y with e | e | e
      · have := h2.2 e; omega
      · exact e
      · have := h1.2 e; omega
theorem IsM.order {P : Nat → Prop} {G G' : Nat → Int} {lo hi : Nat} {r : Option Nat} (hG : ∀ v w, P v → P w → lo ≤ v → v < hi → lo ≤ w → w < hi → (G v ≤ G w ↔ G' v ≤ G' w)) (h : IsM P G lo hi r) : IsM P G' lo hi r := by
  cases r with
  | none => exact h
  | some x =>
    refine ⟨h.1, h.2.1, h.2.2.1, fun v h1 h2 h3 => ?_⟩
    have a := h.2.2.2 v h1 h2 h3
    have b := hG x v h.2.2.1 h3 h.1 h.2.1 h1 h2
    have c := hG v x h3 h.2.2.1 h1 h2 h.1 h.2.1
    refine ⟨b.mp a.1, fun e => ?_⟩
    have := a.2 e
    have hn : ¬ G' v ≤ G' x := fun q => absurd (c.mpr q) (by omega)
    omega
/-- from below -/
theorem IsM.up {P : Nat → Prop} {G : Nat → Int} {hi : Nat} {r : Option Nat} (h : IsM P G 0 hi r) : (¬ P hi → IsM P G 0 (hi + 1) r) ∧ (P hi → (r = none → IsM P G 0 (hi + 1) (some hi)) ∧ ∀ x, r = some x → (G x ≤ G hi → IsM P G 0 (hi + 1) r) ∧ (¬ G x ≤ G hi → IsM P G 0 (hi + 1) (some hi))) := by
  refine ⟨fun hn => ?_, fun hp => ⟨fun e => ?_, fun x e => ⟨fun hg => ?_, fun hg => ?_⟩⟩⟩
  · cases r with
    | none =>
      intro v h1 h2 h3
      by_cases e : v = hi
      · subst e; exact hn h3
      · exact h v h1 (by omega) h3
    | some x =>
      refine ⟨h.1, by have := h.2.1; omega, h.2.2.1, fun v h1 h2 h3 => ?_⟩
      by_cases e : v = hi
      · subst e; exact absurd h3 hn
      · exact h.2.2.2 v h1 (by omega) h3
  · subst e
    refine ⟨Nat.zero_le _, by omega, hp, fun v h1 h2 h3 => ?_⟩
    by_cases e : v = hi
    · subst e; exact ⟨by omega, fun q => by omega⟩
    · exact absurd h3 (h v h1 (by omega))
  · subst e
    refine ⟨h.1, by have := h.2.1; omega, h.2.2.1, fun v h1 h2 h3 => ?_⟩
    by_cases e : v = hi
    · subst e; exact ⟨hg, fun q => by have := h.2.1; omega⟩
    · exact h.2.2.2 v h1 (by omega) h3
  · subst e
    refine ⟨Nat.zero_le _, by omega, hp, fun v h1 h2 h3 => ?_⟩
    by_cases e : v = hi
    · subst e; exact ⟨by omega, fun q => by omega⟩
    · have := (h.2.2.2 v h1 (by omega) h3).1
      exact ⟨by omega, fun q => by omega⟩
/-- from above -/
theorem IsM.down {P : Nat → Prop} {G : Nat → Int} {lo hi : Nat} {r : Option Nat} (hl : lo < hi) (h : IsM P G (lo + 1) hi r) : (¬ P lo → IsM P G lo hi r) ∧ (P lo → (r = none → IsM P G lo hi (some lo)) ∧ ∀ x, r = some x → (G x < G lo → IsM P G lo hi r) ∧ (¬ G x < G lo → IsM P G lo hi (some lo))) := by
  refine ⟨fun hn => ?_, fun hp => ⟨fun e => ?_, fun x e => ⟨fun hg => ?_, fun hg => ?_⟩⟩⟩
  · cases r with
    | none =>
      intro v h1 h2 h3
      by_cases e : v = lo
      · subst e; exact hn h3
      · exact h v (by omega) h2 h3
    | some x =>
      refine ⟨by have := h.1; omega, h.2.1, h.2.2.1, fun v h1 h2 h3 => ?_⟩
      by_cases e : v = lo
      · subst e; exact absurd h3 hn
      · exact h.2.2.2 v (by omega) h2 h3
  · subst e
    refine ⟨Nat.le_refl _, hl, hp, fun v h1 h2 h3 => ?_⟩
    by_cases e : v = lo
    · subst e; exact ⟨by omega, fun q => by omega⟩
    · exact absurd h3 (h v (by omega) h2)
  · subst e
    refine ⟨by have := h.1; omega, h.2.1, h.2.2.1, fun v h1 h2 h3 => ?_⟩
    by_cases e : v = lo
    · subst e; exact ⟨by omega, fun _ => hg⟩
    · exact h.2.2.2 v (by omega) h2 h3
  · subst e
    refine ⟨Nat.le_refl _, hl, hp, fun v h1 h2 h3 => ?_⟩
    by_cases e : v = lo
    · subst e; exact ⟨by omega, fun q => by omega⟩
    · have := (h.2.2.2 v (by omega) h2 h3).1
      exact ⟨by omega, fun q => by omega⟩
def enc (r : Option Nat) : Int32 := match r with
  | none => -9
  | some v => nI v
theorem enc_9 {r : Option Nat} (h : ∀ x, r = some x → x < 2147483648) : (enc r = -9) = (r = none) := by
  cases r with
  | none => simp [enc]
  | some x =>
    have e := negN (a := 9) (by omega) (by omega) x (h x rfl)
    have e2 : (nI x = -9) = False := e
    simp only [enc, e2]
    simp
