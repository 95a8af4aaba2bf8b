/-! tokens of the text, on both sides -/
def TXT (len : Nat) (c : Nat → Nat) (tx : ar) : Prop := len ≤ 120 ∧ ∀ i, i < len → tx i = nI (c i) ∧ c i ≤ 255
def Sk (len : Nat) (c : Nat → Nat) (p s : Nat) : Prop := p ≤ s ∧ s ≤ len ∧ (∀ i, p ≤ i → i < s → c i = 32) ∧ (s < len → c s ≠ 32)
theorem Sk.ex (len : Nat) (c : Nat → Nat) : ∀ m p, p + m = len → ∃ s, Sk len c p s := by
  intro m
  induction m with
  | zero => intro p h; exact ⟨p, by omega, by omega, fun i h1 h2 => by omega, fun h2 => by omega⟩
  | succ m ih =>
    intro p h
    by_cases e : c p = 32
    · obtain ⟨s, h1, h2, h3, h4⟩ := ih (p + 1) (by omega)
      refine ⟨s, by omega, h2, fun i a b => ?_, h4⟩
      by_cases e2 : i = p
      · subst e2; exact e
      · exact h3 i (by omega) b
    · exact ⟨p, by omega, by omega, fun i h1 h2 => by omega, fun _ => e⟩
theorem Sk.self {len : Nat} {c : Nat → Nat} {p s : Nat} (h : Sk len c p s) : Sk len c s s := ⟨by omega, h.2.1, fun i a b => by omega, h.2.2.2⟩
theorem skC {len : Nat} {c : Nat → Nat} {tx : ar} (hT : TXT len c tx) : ∀ (n p s : Nat), Sk len c p s → len - p < n → f_X6_step_L0 tx (nI len) n (nI p) = some (nI s) := by
  intro n
  induction n with
  | zero => intro p s h1 h2; omega
  | succ n ih =>
    intro p s h h2
    obtain ⟨h1, h3, h4, h5⟩ := h
    have hl := hT.1
    rw [f_X6_step_L0]
    by_cases hp : len ≤ p
    · have : s = p := by omega
      subst this
      rw [if_pos (nI_le hp (by omega))]
    · rw [if_neg (nI_ge (by omega) (by omega))]
      simp (disch := omega) only [ckN, clN, nI_1]
      have hc := hT.2 p (by omega)
      rw [hc.1]
      by_cases e : c p = 32
      · rw [if_pos (by rw [e]; rfl)]
        have : p ≠ s := fun q => by subst q; exact h5 (by omega) e
        exact ih (p + 1) s ⟨by omega, h3, fun i a b => h4 i (by omega) b, h5⟩ (by omega)
      · rw [if_neg (show ¬ nI (c p) = 32 from fun q => e ((nI_eq (b := 32) (by omega) (by omega)).mp q))]
        have : s = p := by
          by_cases q : s = p
          · exact q
          · exact absurd (h4 p (by omega) (by omega)) e
        rw [this]
theorem skR {len : Nat} {c : Nat → Nat} {tx : ar} (hT : TXT len c tx) : ∀ (n p s : Nat), Sk len c p s → len - p < n → f_X12_blanks_L0 (nI len) tx n (nI p) = some (nI s) := by
  intro n
  induction n with
  | zero => intro p s h1 h2; omega
  | succ n ih =>
    intro p s h h2
    obtain ⟨h1, h3, h4, h5⟩ := h
    have hl := hT.1
    rw [f_X12_blanks_L0]
    by_cases hp : len ≤ p
    · have : s = p := by omega
      subst this
      rw [if_pos (nI_le hp (by omega))]
    · rw [if_neg (nI_ge (by omega) (by omega))]
      simp (disch := omega) only [ckN, clN, nI_1]
      have hc := hT.2 p (by omega)
      rw [hc.1]
      by_cases e : c p = 32
      · rw [if_pos (by rw [e]; rfl)]
        have : p ≠ s := fun q => by subst q; exact h5 (by omega) e
        exact ih (p + 1) s ⟨by omega, h3, fun i a b => h4 i (by omega) b, h5⟩ (by omega)
      · rw [if_neg (show ¬ nI (c p) = 32 from fun q => e ((nI_eq (b := 32) (by omega) (by omega)).mp q))]
        have : s = p := by
          by_cases q : s = p
          · exact q
          · exact absurd (h4 p (by omega) (by omega)) e
        rw [this]
def dig (k : Nat) : Bool := decide (48 ≤ k ∧ k ≤ 57)
theorem isDigit_N {k : Nat} (hk : k ≤ 255) : f_X6_isDigit (nI k) = some (dig k) := by
  unfold f_X6_isDigit dig
  have e1 : (nI k < 48) = (k < 48) := ltN (b := 48) (by omega) (by omega)
  have e2 : ((57 : Int32) < nI k) = (57 < k) := ltN (a := 57) (by omega) (by omega)
  by_cases h1 : k < 48
  · rw [if_pos (by rw [e1]; exact h1), decide_eq_false (by omega)]
  · rw [if_neg (by rw [e1]; exact h1)]
    by_cases h2 : 57 < k
    · rw [if_pos (by rw [e2]; exact h2), decide_eq_false (by omega)]
    · rw [if_neg (by rw [e2]; exact h2), decide_eq_true (by omega)]
theorem isFigure_N {len : Nat} {c : Nat → Nat} {tx : ar} (hT : TXT len c tx) {p : Nat} (hp : p ≤ len) : f_X12_isFigure (nI len) tx (nI p) = some (decide (p < len) && dig (c p)) := by
  have hl := hT.1
  unfold f_X12_isFigure
  by_cases h : len ≤ p
  · rw [if_pos (nI_le h (by omega)), decide_eq_false (by omega)]; rfl
  · rw [if_neg (nI_ge (by omega) (by omega)), decide_eq_true (by omega)]
    simp (disch := omega) only [ckN, clN]
    have hc := hT.2 p (by omega)
    have := in_N (nI (c p)) 48 57 (by omega) (by omega)
    have e1 : nI 48 = 48 := rfl
    have e2 : nI 57 = 57 := rfl
    rw [e1, e2] at this
    rw [hc.1, this, Option.bind_some]
    have e3 : (decide (((48 : Nat) : Int) ≤ (nI (c p)).toInt ∧ (nI (c p)).toInt ≤ ((57 : Nat) : Int))) = dig (c p) := by
      unfold dig
      apply decide_eq_decide.mpr
      rw [nI_toInt (by omega)]
      omega
    rw [e3]
    cases dig (c p) <;> rfl
/-- how far the figures have been read: j of them -/
def DI (c : Nat → Nat) (s j k : Nat) (x : Int32) : Prop := k ≤ 100 ∧ (j ≤ 2 → x = nI k ∧ (j = 0 → k = 0) ∧ (j = 1 → k ≤ 9) ∧ k ≤ 99 ∧ (c s ≠ 48 → (1 ≤ j → 1 ≤ k) ∧ (j = 2 → 10 ≤ k))) ∧ (3 ≤ j → x = 100 ∧ (c s ≠ 48 → k = 100))
theorem digits {len : Nat} {c : Nat → Nat} {tx ty : ar} (hT : TXT len c tx) (hU : TXT len c ty) {s : Nat} : ∀ (m j f g k : Nat) (x : Int32), s + j + m = len → m < f → m < g → DI c s j k x → (1 ≤ j → dig (c s) = true) → ∃ q k' x', s + j ≤ q ∧ q ≤ len ∧ (dig (c (s + j)) = true → s + j < len → s + j < q) ∧ f_X6_stepOverNumber_L5 tx (nI len) f (nI k) (nI (s + j)) = some (nI k', nI q) ∧ f_X12_next_L40 (nI len) ty (nI s) g x (nI (s + j)) = some (x', nI q) ∧ DI c s (q - s) k' x' := by
  intro m
  induction m with
  | zero =>
    intro j f g k x h1 h2 h3 hD hd
    obtain ⟨f, rfl⟩ : ∃ q, f = q + 1 := ⟨f - 1, by omega⟩
    obtain ⟨g, rfl⟩ : ∃ q, g = q + 1 := ⟨g - 1, by omega⟩
    have hl := hT.1
    rw [f_X6_stepOverNumber_L5, f_X12_next_L40, if_pos (nI_le (by omega) (by omega)), isFigure_N hU (by omega), Option.bind_some, decide_eq_false (show ¬ s + j < len by omega)]
    exact ⟨s + j, k, x, by omega, by omega, fun _ h => by omega, rfl, rfl, by rw [show s + j - s = j by omega]; exact hD⟩
  | succ m ih =>
    intro j f g k x h1 h2 h3 hD hd
    obtain ⟨f, rfl⟩ : ∃ q, f = q + 1 := ⟨f - 1, by omega⟩
    obtain ⟨g, rfl⟩ : ∃ q, g = q + 1 := ⟨g - 1, by omega⟩
    have hl := hT.1
    have hc := hT.2 (s + j) (by omega)
    have hcu := hU.2 (s + j) (by omega)
    rw [f_X6_stepOverNumber_L5, f_X12_next_L40, if_neg (nI_ge (by omega) (by omega)), isFigure_N hU (by omega), Option.bind_some, decide_eq_true (show s + j < len by omega)]
    simp (disch := omega) only [ckN, clN, nI_1]
    rw [hc.1, hcu.1, isDigit_N hc.2, Option.bind_some, Bool.true_and]
    cases hdg : dig (c (s + j)) with
    | false =>
      rw [if_pos (show b2i false = 0 from rfl), if_pos (show b2i false = 0 from rfl)]
      exact ⟨s + j, k, x, by omega, by omega, fun h => (by cases h), rfl, rfl, by rw [show s + j - s = j by omega]; exact hD⟩
    | true =>
      have hd2 := of_decide_eq_true hdg
      rw [if_neg (show ¬ b2i true = 0 from by decide), if_neg (show ¬ b2i true = 0 from by decide)]
      obtain ⟨a1, a2, a3⟩ := hD
      have e1 : nI k * 10 + nI (c (s + j)) - 48 = nI (10 * k + c (s + j) - 48) := by
        have q1 : nI k * 10 = nI (k * 10) := pk_mul k 10
        rw [q1, nI_add]
        have q2 := pk_sub (a := k * 10 + c (s + j)) (b := 48) (by omega)
        have q3 : nI 48 = 48 := rfl
        rw [q3] at q2
        rw [q2]
        congr 1
        omega
      have e2 : (if (100 : Int32) < nI (10 * k + c (s + j) - 48) then (100 : Int32) else nI (10 * k + c (s + j) - 48)) = nI (if 100 < 10 * k + c (s + j) - 48 then 100 else 10 * k + c (s + j) - 48) := by
        have q : ((100 : Int32) < nI (10 * k + c (s + j) - 48)) = (100 < 10 * k + c (s + j) - 48) := ltN (a := 100) (by omega) (by omega)
        by_cases h : 100 < 10 * k + c (s + j) - 48
        · rw [if_pos (by rw [q]; exact h), if_pos h]; rfl
        · rw [if_neg (by rw [q]; exact h), if_neg h]
      have e3 : nI (s + j) - nI s = nI j := by
        rw [pk_sub (by omega)]
        congr 1
        omega
      have e4 : ((2 : Int32) ≤ nI j) = (2 ≤ j) := leN (a := 2) (by omega) (by omega)
      rw [e1, e2, e3]
      have hds : dig (c s) = true := by
        by_cases h : 1 ≤ j
        · exact hd h
        · have : j = 0 := by omega
          subst this
          exact hdg
      by_cases h2j : 2 ≤ j
      · rw [if_pos (show (2 : Int32) ≤ nI j from by rw [e4]; exact h2j)]
        have hD' : DI c s (j + 1) (if 100 < 10 * k + c (s + j) - 48 then 100 else 10 * k + c (s + j) - 48) 100 := by
          refine ⟨by split <;> omega, fun h => by omega, fun _ => ⟨rfl, fun h48 => ?_⟩⟩
          have : 10 ≤ k := by
            by_cases hj : j = 2
            · exact ((a2 (by omega)).2.2.2.2 h48).2 hj
            · have := (a3 (by omega)).2 h48; omega
          split <;> omega
        obtain ⟨q, k', x', b1, b2, b3, b4, b5, b6⟩ := ih (j + 1) f g _ _ (by omega) (by omega) (by omega) hD' (fun _ => hds)
        exact ⟨q, k', x', by omega, b2, fun _ _ => by omega, b4, b5, b6⟩
      · rw [if_neg (show ¬ (2 : Int32) ≤ nI j from by rw [e4]; exact h2j)]
        obtain ⟨c1, c2, c3, c4, c5⟩ := a2 (by omega)
        have e5 : 10 * x + nI (c (s + j)) - 48 = nI (10 * k + c (s + j) - 48) := by
          rw [c1]
          have q1 : 10 * nI k = nI (10 * k) := pk_mul 10 k
          rw [q1, nI_add]
          exact pk_sub (a := 10 * k + c (s + j)) (b := 48) (by omega)
        rw [e5]
        have hk9 : k ≤ 9 := by
          by_cases hj : j = 0
          · have := c2 hj; omega
          · exact c3 (by omega)
        have hD' : DI c s (j + 1) (if 100 < 10 * k + c (s + j) - 48 then 100 else 10 * k + c (s + j) - 48) (nI (10 * k + c (s + j) - 48)) := by
          rw [if_neg (by omega)]
          refine ⟨by omega, fun _ => ⟨rfl, fun h => by omega, fun h => ?_, by omega, fun h48 => ⟨fun _ => ?_, fun hj => ?_⟩⟩, fun h => by omega⟩
          · have := c2 (by omega); omega
          · by_cases hj : j = 0
            · subst hj
              simp only [Nat.add_zero] at hd2 ⊢
              omega
            · have := (c5 h48).1 (by omega); omega
          · have := (c5 h48).1 (by omega); omega
        obtain ⟨q, k', x', b1, b2, b3, b4, b5, b6⟩ := ih (j + 1) f g _ _ (by omega) (by omega) (by omega) hD' (fun _ => hds)
        exact ⟨q, k', x', by omega, b2, fun _ _ => by omega, b4, b5, b6⟩
/-- a token: its kind and number in the class, its number in the reference -/
def TK (kd nu tk : Int32) : Prop := (kd = -3 ∧ tk = -1) ∨ (∃ k : Nat, k ≤ 99 ∧ kd = -1 ∧ nu = nI k ∧ tk = nI (1000 + k)) ∨ (kd = -2 ∧ tk = 2000) ∨ ∃ k : Nat, k ≤ 255 ∧ dig k = false ∧ kd = nI k ∧ tk = nI k
theorem token {len N : Nat} {c : Nat → Nat} {tx ty : ar} (hN : 130 ≤ N) (hT : TXT len c tx) (hU : TXT len c ty) {p p' s : Nat} (hs : Sk len c p s) (hs' : Sk len c p' s) (nu : Int32) : ∃ kd nu' q tk, f_X6_step N tx (nI len) nu (nI p) = some (kd, nu', nI s, nI q) ∧ f_X12_next N (nI len) ty (nI p') = some (nI q, nI s, tk) ∧ TK kd nu' tk ∧ s ≤ q ∧ q ≤ len ∧ ((kd = -3 ∧ tk = -1 ∧ s = len) ∨ (¬ kd = -3 ∧ s < len ∧ s < q)) := by
  have hl := hT.1
  have hsl := hs.2.1
  unfold f_X6_step f_X12_next f_X12_blanks
  rw [skC hT N p s hs (by omega), skR hU N p' s hs' (by omega), Option.bind_some, Option.bind_some, Option.bind_some]
  by_cases he : s = len
  · rw [if_neg (by rw [he]; exact nI_nlt (Nat.le_refl _) (by omega)), if_pos (by rw [he])]
    exact ⟨-3, nu, s, -1, rfl, rfl, Or.inl ⟨rfl, rfl⟩, by omega, by omega, Or.inl ⟨rfl, rfl, he⟩⟩
  · have hc := hT.2 s (by omega)
    have hcu := hU.2 s (by omega)
    rw [if_pos (nI_lt (by omega) (by omega)), if_neg (fun q => he ((nI_eq (by omega) (by omega)).mp q)), isFigure_N hU hsl, Option.bind_some, decide_eq_true (show s < len by omega), Bool.true_and]
    simp (disch := omega) only [ckN, clN, nI_1]
    rw [hc.1, hcu.1, isDigit_N hc.2, Option.bind_some]
    cases hdg : dig (c s) with
    | false =>
      rw [if_pos (show b2i false = 0 from rfl), if_pos (show b2i false = 0 from rfl)]
      refine ⟨nI (c s), nu, s + 1, nI (c s), rfl, rfl, Or.inr (Or.inr (Or.inr ⟨c s, hc.2, hdg, rfl, rfl⟩)), by omega, by omega, Or.inr ⟨?_, by omega, by omega⟩⟩
      have := negN (a := 3) (by omega) (by omega) (c s) (by omega)
      intro q
      exact (this ▸ q : False)
    | true =>
      rw [if_neg (show ¬ b2i true = 0 from by decide), if_neg (show ¬ b2i true = 0 from by decide)]
      obtain ⟨q, k, x, b1, b2, b3, b4, b5, b6⟩ := digits hT hU (s := s) (len - s) 0 N N 0 0 (by omega) (by omega) (by omega) ⟨by omega, fun _ => ⟨rfl, fun _ => rfl, fun h => by omega, by omega, fun _ => ⟨fun h => by omega, fun h => by omega⟩⟩, fun h => by omega⟩ (fun h => by omega)
      have e4 : nI 0 = 0 := rfl
      simp only [Nat.add_zero] at b3 b4 b5
      rw [e4] at b4
      have hq := b3 hdg (by omega)
      unfold f_X6_stepOverNumber
      rw [b4, b5, Option.bind_some, Option.bind_some]
      simp (disch := omega) only [ckN, clN, nI_1]
      rw [hc.1]
      have e48 : (nI (c s) = 48) = (c s = 48) := eqN (b := 48) (by omega) (by omega)
      have e1 : (nI q ≤ nI (s + 1)) = (q ≤ s + 1) := leN (by omega) (by omega)
      have e2 : nI q - nI s = nI (q - s) := pk_sub (by omega)
      have e3 : (nI (q - s) ≤ 1) = (q - s ≤ 1) := leN (b := 1) (by omega) (by omega)
      have ek : (nI k ≤ 99) = (k ≤ 99) := leN (b := 99) (by have := b6.1; omega) (by omega)
      obtain ⟨a1, a2, a3⟩ := b6
      have ne3 : ¬ (-2 : Int32) = -3 := by decide
      have ne1 : ¬ (-1 : Int32) = -3 := by decide
      rw [e2]
      by_cases hj : 3 ≤ q - s
      · obtain ⟨x1, x2⟩ := a3 hj
        rw [x1, if_pos (show (99 : Int32) < 100 from by decide)]
        by_cases h48 : c s = 48
        · rw [if_pos (show nI (c s) = 48 from by rw [e48]; exact h48), if_neg (show ¬ nI q ≤ nI (s + 1) from by rw [e1]; omega), Option.bind_some, if_neg (show ¬ (1 : Int32) = 0 from by decide), Option.bind_some]
          exact ⟨-2, nI k, q, 2000, rfl, rfl, Or.inr (Or.inr (Or.inl ⟨rfl, rfl⟩)), by omega, b2, Or.inr ⟨ne3, by omega, hq⟩⟩
        · rw [if_neg (show ¬ nI (c s) = 48 from by rw [e48]; exact h48), Option.bind_some, if_pos (show (0 : Int32) = 0 from rfl), if_neg (show ¬ nI k ≤ 99 from by rw [ek]; have := x2 h48; omega), Option.bind_some]
          exact ⟨-2, nI k, q, 2000, rfl, rfl, Or.inr (Or.inr (Or.inl ⟨rfl, rfl⟩)), by omega, b2, Or.inr ⟨ne3, by omega, hq⟩⟩
      · obtain ⟨c1, c2, c3, c4, c5⟩ := a2 (by omega)
        have e99 : ((99 : Int32) < nI k) = (99 < k) := ltN (a := 99) (by omega) (by omega)
        have e1000 : (1000 : Int32) + nI k = nI (1000 + k) := nI_add 1000 k
        rw [c1, if_neg (show ¬ (99 : Int32) < nI k from by rw [e99]; omega), e1000]
        by_cases h48 : c s = 48
        · rw [if_pos (show nI (c s) = 48 from by rw [e48]; exact h48), if_pos (show nI (c s) = 48 from by rw [e48]; exact h48)]
          by_cases h1 : q ≤ s + 1
          · rw [if_pos (show nI q ≤ nI (s + 1) from by rw [e1]; exact h1), if_pos (show nI (q - s) ≤ 1 from by rw [e3]; omega), Option.bind_some, if_pos (show (0 : Int32) = 0 from rfl), if_pos (show nI k ≤ 99 from by rw [ek]; exact c4), Option.bind_some]
            exact ⟨-1, nI k, q, nI (1000 + k), rfl, rfl, Or.inr (Or.inl ⟨k, c4, rfl, rfl, rfl⟩), by omega, b2, Or.inr ⟨ne1, by omega, hq⟩⟩
          · rw [if_neg (show ¬ nI q ≤ nI (s + 1) from by rw [e1]; exact h1), if_neg (show ¬ nI (q - s) ≤ 1 from by rw [e3]; omega), Option.bind_some, if_neg (show ¬ (1 : Int32) = 0 from by decide), Option.bind_some]
            exact ⟨-2, nI k, q, 2000, rfl, rfl, Or.inr (Or.inr (Or.inl ⟨rfl, rfl⟩)), by omega, b2, Or.inr ⟨ne3, by omega, hq⟩⟩
        · rw [if_neg (show ¬ nI (c s) = 48 from by rw [e48]; exact h48), if_neg (show ¬ nI (c s) = 48 from by rw [e48]; exact h48), Option.bind_some, if_pos (show (0 : Int32) = 0 from rfl), if_pos (show nI k ≤ 99 from by rw [ek]; exact c4), Option.bind_some]
          exact ⟨-1, nI k, q, nI (1000 + k), rfl, rfl, Or.inr (Or.inl ⟨k, c4, rfl, rfl, rfl⟩), by omega, b2, Or.inr ⟨ne1, by omega, hq⟩⟩
/-- a number between two, on both sides -/
theorem number {len N : Nat} {c : Nat → Nat} {tx ty : ar} (hN : 130 ≤ N) (hT : TXT len c tx) (hU : TXT len c ty) {p p' s : Nat} (hs : Sk len c p s) (hs' : Sk len c p' s) (nu : Int32) {lo hi : Nat} (hlo : lo ≤ 99) (hhi : hi ≤ 99) : ∃ b kd nu' q tk, f_X6_readNumber N tx (nI len) nu (nI p) (nI lo) (nI hi) = some (b, kd, nu', nI s, nI q) ∧ f_X12_isNumber N (nI len) ty (nI p') (nI lo) (nI hi) = some (b, nI q, nI s, tk) ∧ s ≤ q ∧ q ≤ len ∧ (b = true → ∃ k : Nat, lo ≤ k ∧ k ≤ hi ∧ nu' = nI k ∧ tk = nI (1000 + k)) := by
  obtain ⟨kd, nu', q, tk, h1, h2, h3, h4, h5, h6⟩ := token hN hT hU hs hs' nu
  unfold f_X6_readNumber f_X12_isNumber
  rw [h1, h2, Option.bind_some, Option.bind_some]
  dsimp only
  have e1 : (1000 : Int32) + nI lo = nI (1000 + lo) := nI_add 1000 lo
  have e2 : (1000 : Int32) + nI hi = nI (1000 + hi) := nI_add 1000 hi
  rw [e1, e2, in_N _ _ _ (by omega) (by omega), Option.bind_some]
  have hbad : ∀ {z : Int}, tk.toInt = z → (z < 1000 ∨ 1999 < z) → decide (((1000 + lo : Nat) : Int) ≤ tk.toInt ∧ tk.toInt ≤ ((1000 + hi : Nat) : Int)) = false := by
    intro z hz hz2
    apply decide_eq_false
    omega
  rcases h3 with ⟨a, b⟩ | ⟨k, a, b, d, e⟩ | ⟨a, b⟩ | ⟨k, a, b, d, e⟩
  · have hb := hbad (z := -1) (by rw [b]; rfl) (by omega)
    rw [hb, if_neg (by rw [a]; decide)]
    exact ⟨false, kd, nu', q, tk, rfl, rfl, h4, h5, fun h => by cases h⟩
  · rw [if_pos b, d, e, nI_toInt (by omega)]
    have q1 : (nI k < nI lo) = (k < lo) := ltN (by omega) (by omega)
    have q2 : (nI hi < nI k) = (hi < k) := ltN (by omega) (by omega)
    by_cases g1 : k < lo
    · rw [if_pos (by rw [q1]; exact g1), decide_eq_false (by omega)]
      exact ⟨false, kd, nI k, q, _, rfl, rfl, h4, h5, fun h => by cases h⟩
    · rw [if_neg (by rw [q1]; exact g1)]
      by_cases g2 : hi < k
      · rw [if_pos (by rw [q2]; exact g2), decide_eq_false (by omega)]
        exact ⟨false, kd, nI k, q, _, rfl, rfl, h4, h5, fun h => by cases h⟩
      · rw [if_neg (by rw [q2]; exact g2), decide_eq_true (by omega)]
        exact ⟨true, kd, nI k, q, _, rfl, rfl, h4, h5, fun _ => ⟨k, by omega, by omega, rfl, rfl⟩⟩
  · have hb := hbad (z := 2000) (by rw [b]; rfl) (by omega)
    rw [hb, if_neg (by rw [a]; decide)]
    exact ⟨false, kd, nu', q, tk, rfl, rfl, h4, h5, fun h => by cases h⟩
  · have hb := hbad (z := k) (by rw [e]; exact nI_toInt (by omega)) (by omega)
    have hne : ¬ kd = -1 := by
      rw [d]
      have := negN (a := 1) (by omega) (by omega) k (by omega)
      intro q
      exact (this ▸ q : False)
    rw [hb, if_neg hne]
    exact ⟨false, kd, nu', q, tk, rfl, rfl, h4, h5, fun h => by cases h⟩
