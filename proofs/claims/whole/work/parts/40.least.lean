theorem encB_eq {w : Option Nat} (hw : ∀ k, w = some k → k < 36) {p : Nat} (hp : p < 36) : (nI p = encB w) = (w = some p) := by
  cases w with
  | none =>
    have := negN (a := 1) (by omega) (by omega) p (by omega)
    have e : (nI p = encB none) = False := this
    rw [e]; simp
  | some k =>
    have := hw k rfl
    show (nI p = nI k) = _
    rw [eqN (by omega) (by omega)]
    apply propext
    constructor
    · intro e; rw [e]
    · intro e; cases e; rfl
theorem enc_eq {w : Option Nat} (hw : ∀ k, w = some k → k < 36) {p : Nat} (hp : p < 36) : (nI p = enc w) = (w = some p) := by
  cases w with
  | none =>
    have := negN (a := 9) (by omega) (by omega) p (by omega)
    have e : (nI p = enc none) = False := this
    rw [e]; simp
  | some k =>
    have := hw k rfl
    show (nI p = nI k) = _
    rw [eqN (by omega) (by omega)]
    apply propext
    constructor
    · intro e; rw [e]
    · intro e; cases e; rfl
theorem stepFrom_N {nd : Nat} {dl row : ar} (hK : LK nd dl row) {w : Option Nat} (hw : ∀ k, w = some k → k < 36) {u v : Nat} (hu : u < 6) (hv : v < 6) : f_X2_stepFrom dl (nI u) (nI v) (encB w) = some (if u = v then 0 else if 0 < (dl (6 * u + v)).toInt ∧ ¬ w = some (pr u v) then dl (6 * u + v) else 1000000) := by
  unfold f_X2_stepFrom
  by_cases e : u = v
  · subst e; simp
  · rw [if_neg (fun q => e ((nI_eq (by omega) (by omega)).mp q)), if_neg e, delayOf_N hu hv, Option.bind_some]
    have e1 : f_X11_pairCell (if nI v < nI u then nI v else nI u) (if nI u < nI v then nI v else nI u) = some (nI (pr u v)) := by
      simp (disch := omega) only [ltN]
      unfold pr
      by_cases h : v < u
      · rw [if_pos h, if_neg (by omega), if_pos (by omega), pairCell_N]
      · rw [if_neg h, if_pos (by omega), if_neg (by omega), pairCell_N]
    rw [e1, Option.bind_some]
    have h4 := hK.2.2.2.1 u v hu hv
    by_cases hd : dl (6 * u + v) = 0
    · rw [if_pos hd, if_neg]
      rw [hd, i0]
      omega
    · rw [if_neg hd]
      have hpos : 0 < (dl (6 * u + v)).toInt := by
        by_cases h : (dl (6 * u + v)).toInt = 0
        · exact absurd (Int32.toInt_inj.mp h) hd
        · omega
      have hq := encB_eq hw (pr_lt hu hv)
      by_cases hc : w = some (pr u v)
      · rw [if_pos (by rw [hq]; exact hc), if_neg (fun q => q.2 hc)]
      · rw [if_neg (by rw [hq]; exact hc), if_pos ⟨hpos, hc⟩]
def FE (a b : Nat) (sm far : ar) : Prop := (a = b → sm (6 * a + b) = 0 ∧ far (6 * a + b) = 0) ∧ FR 9 (sm (6 * a + b)) (far (6 * a + b))
def PI (nd u v : Nat) (sm far : ar) : Prop := ∀ a b, a < nd → b < nd → (a < u ∨ (a = u ∧ b < v)) → FE a b sm far
theorem init_v {nd : Nat} {dl row : ar} (hK : LK nd dl row) (hn : nd ≤ 6) {w : Option Nat} (hw : ∀ k, w = some k → k < 36) {u : Nat} (hu : u < nd) : ∀ (m v f g : Nat) (sm far : ar), v + m = nd → m < f → m < g → PI nd u v sm far → ∃ sm' far', f_X2_measure_L20 dl (nI nd) (encB w) (nI u) f (nI v) sm = some sm' ∧ f_X12_laysFar_L12 (nI nd) row (enc w) (nI u) g (nI v) far = some far' ∧ PI nd u nd sm' far' := by
  intro m
  induction m with
  | zero =>
    intro v f g sm far h1 h2 h3 h
    obtain ⟨f, rfl⟩ : ∃ q, f = q + 1 := ⟨f - 1, by omega⟩
    obtain ⟨g, rfl⟩ : ∃ q, g = q + 1 := ⟨g - 1, by omega⟩
    have : v = nd := by omega
    subst this
    rw [f_X2_measure_L20, f_X12_laysFar_L12, if_pos (nI_le (by omega) (by omega)), if_pos (nI_le (by omega) (by omega))]
    exact ⟨sm, far, rfl, rfl, h⟩
  | succ m ih =>
    intro v f g sm far h1 h2 h3 h
    obtain ⟨f, rfl⟩ : ∃ q, f = q + 1 := ⟨f - 1, by omega⟩
    obtain ⟨g, rfl⟩ : ∃ q, g = q + 1 := ⟨g - 1, by omega⟩
    have hv6 : v < 6 := by omega
    have hu6 : u < 6 := by omega
    have e6 : ∀ a b : Nat, (6 : Int32) * nI a + nI b = nI (6 * a + b) := fun a b => by
      have : (6 : Int32) * nI a = nI (6 * a) := pk_mul 6 a
      rw [this, nI_add]
    rw [f_X2_measure_L20, f_X12_laysFar_L12, if_neg (nI_ge (by omega) (by omega)), if_neg (nI_ge (by omega) (by omega))]
    rw [pairCell_N, Option.bind_some, stepFrom_N hK hw hu6 hv6, Option.bind_some, pair_N hu6 hv6, Option.bind_some, delayR_K hK hu6 hv6]
    simp (disch := omega) only [ckN, clN, nI_1, e6]
    have hst : ∀ (x y : Int32), FR 9 x y → (u = v → x = 0 ∧ y = 0) → PI nd u (v + 1) (upd sm (6 * u + v) x) (upd far (6 * u + v) y) := by
      intro x y hxy hd a b ha hb hab
      by_cases e : 6 * a + b = 6 * u + v
      · have : a = u ∧ b = v := by omega
        obtain ⟨rfl, rfl⟩ := this
        unfold FE
        rw [pk_us, pk_us]
        exact ⟨hd, hxy⟩
      · unfold FE
        rw [pk_un e, pk_un e]
        exact h a b ha hb (by omega)
    have hqe := enc_eq hw (pr_lt hu6 hv6)
    by_cases e : u = v
    · have en : nI u = nI v := by rw [e]
      simp only [if_pos en, if_pos e, Option.bind_some]
      exact ih (v + 1) f g _ _ (by omega) (by omega) (by omega) (hst 0 0 (Or.inr ⟨0, by omega, rfl, rfl⟩) (fun _ => ⟨rfl, rfl⟩))
    · have en : ¬ nI u = nI v := fun q => e ((nI_eq (by omega) (by omega)).mp q)
      simp only [if_neg en, if_neg e, Option.bind_some]
      by_cases hc : w = some (pr u v)
      · have hc1 : nI (pr u v) = enc w := by rw [hqe]; exact hc
        rw [if_pos hc1, Option.bind_some, if_neg (fun q => q.2 hc), if_pos (by decide)]
        exact ih (v + 1) f g _ _ (by omega) (by omega) (by omega) (hst 1000000 1000 (Or.inl ⟨rfl, rfl⟩) (fun q => absurd q e))
      · have hc1 : ¬ nI (pr u v) = enc w := by rw [hqe]; exact hc
        rw [if_neg hc1, Option.bind_some]
        have h4 := hK.2.2.2.1 u v hu6 hv6
        by_cases hp : 0 < (dl (6 * u + v)).toInt
        · rw [if_pos ⟨hp, hc⟩, if_neg (show ¬ dl (6 * u + v) ≤ 0 from by rw [nle0]; exact fun q => q hp)]
          exact ih (v + 1) f g _ _ (by omega) (by omega) (by omega) (hst _ _ (Or.inr ⟨(dl (6 * u + v)).toInt.toNat, by omega, idxN (by omega), idxN (by omega)⟩) (fun q => absurd q e))
        · rw [if_neg (fun q => hp q.1), if_pos (show dl (6 * u + v) ≤ 0 from by rw [nle0]; exact hp)]
          exact ih (v + 1) f g _ _ (by omega) (by omega) (by omega) (hst 1000000 1000 (Or.inl ⟨rfl, rfl⟩) (fun q => absurd q e))
theorem init_u {nd N : Nat} {dl row : ar} (hK : LK nd dl row) (hN : 7 ≤ N) (hn : nd ≤ 6) {w : Option Nat} (hw : ∀ k, w = some k → k < 36) : ∀ (m u f g : Nat) (sm far : ar), u + m = nd → m < f → m < g → PI nd u 0 sm far → ∃ sm' far', f_X2_measure_L8 dl (nI nd) (encB w) N f (nI u) sm = some sm' ∧ f_X12_laysFar_L2 (nI nd) row (enc w) N g (nI u) far = some far' ∧ PI nd nd 0 sm' far' := by
  intro m
  induction m with
  | zero =>
    intro u f g sm far h1 h2 h3 h
    obtain ⟨f, rfl⟩ : ∃ q, f = q + 1 := ⟨f - 1, by omega⟩
    obtain ⟨g, rfl⟩ : ∃ q, g = q + 1 := ⟨g - 1, by omega⟩
    have : u = nd := by omega
    subst this
    rw [f_X2_measure_L8, f_X12_laysFar_L2, if_pos (nI_le (by omega) (by omega)), if_pos (nI_le (by omega) (by omega))]
    exact ⟨sm, far, rfl, rfl, h⟩
  | succ m ih =>
    intro u f g sm far h1 h2 h3 h
    obtain ⟨f, rfl⟩ : ∃ q, f = q + 1 := ⟨f - 1, by omega⟩
    obtain ⟨g, rfl⟩ : ∃ q, g = q + 1 := ⟨g - 1, by omega⟩
    rw [f_X2_measure_L8, f_X12_laysFar_L2, if_neg (nI_ge (by omega) (by omega)), if_neg (nI_ge (by omega) (by omega)), nI_1]
    obtain ⟨sm1, far1, j1, j2, j3⟩ := init_v hK hn hw (show u < nd by omega) nd 0 N N sm far (by omega) (by omega) (by omega) h
    have e4 : nI 0 = 0 := rfl
    rw [e4] at j1 j2
    rw [j1, j2]
    refine ih (u + 1) f g sm1 far1 (by omega) (by omega) (by omega) (fun a b ha hb hab => j3 a b ha hb (by omega))
theorem measure_K {nd N : Nat} {dl row : ar} (hK : LK nd dl row) (hN : 7 ≤ N) (hn : nd ≤ 6) {w : Option Nat} (hw : ∀ k, w = some k → k < 36) (sm far : ar) : ∃ sm' far', f_X2_measure N sm dl (nI nd) (encB w) = some (nI nd, sm') ∧ f_X12_laysFar N (nI nd) row far (enc w) = some far' ∧ FM nd 999 sm' far' := by
  obtain ⟨sm1, far1, j1, j2, j3⟩ := init_u hK hN hn hw nd 0 N N sm far (by omega) (by omega) (by omega) (fun a b _ _ h => by omega)
  obtain ⟨sm2, far2, k1, k2, k3⟩ := far_b (nd := nd) hN hn nd 0 N N sm1 far1 (by omega) (by omega) (by omega) ⟨fun u hu => (j3 u u hu hu (Or.inl hu)).1 rfl, fun u v hu hv => (j3 u v hu hv (Or.inl hu)).2.mono (by omega)⟩
  have e4 : nI 0 = 0 := rfl
  rw [e4] at j1 j2 k1 k2
  refine ⟨sm2, far2, ?_, ?_, k3⟩
  · unfold f_X2_measure
    rw [j1, Option.bind_some, k1]
    rfl
  · unfold f_X12_laysFar
    rw [j2, Option.bind_some, k2]
    rfl
theorem between_K {nd : Nat} {sm far : ar} (hF : FM nd 999 sm far) (hn : nd ≤ 6) {u v : Nat} (hu : u < nd) (hv : v < nd) : ∃ r, f_X2_between sm (nI u) (nI v) = some r ∧ f_X12_farOf far (nI u) (nI v) = some r ∧ (r = -9 ∨ ∃ k : Nat, k ≤ 999 ∧ r = nI k) := by
  have e6 : (6 : Int32) * nI u + nI v = nI (6 * u + v) := by
    have : (6 : Int32) * nI u = nI (6 * u) := pk_mul 6 u
    rw [this, nI_add]
  unfold f_X2_between f_X12_farOf
  rw [pairCell_N, Option.bind_some, e6]
  simp (disch := omega) only [ckN, clN]
  rcases hF.2 u v hu hv with ⟨a, b⟩ | ⟨k, hk, a, b⟩
  · rw [a, b, if_neg (by decide), if_neg (by decide)]
    exact ⟨-9, rfl, rfl, Or.inl rfl⟩
  · rw [a, b, if_pos (show nI k < 1000000 from nI_lt (b := 1000000) (by omega) (by omega)), if_pos (show nI k < 1000 from nI_lt (b := 1000) (by omega) (by omega))]
    exact ⟨nI k, rfl, rfl, Or.inr ⟨k, hk, rfl⟩⟩
theorem sum_v {nd : Nat} {sm far : ar} (hF : FM nd 999 sm far) (hn : nd ≤ 6) {u : Nat} (hu : u < nd) : ∀ (m v f g : Nat) (a : Nat), v + m = nd → m < f → m < g → ∃ s : Nat, s ≤ a + 999 * m ∧ f_X2_sumOfAll_L14 sm (nI nd) (nI u) f (nI a) (nI v) = some (nI s) ∧ f_X12_hurtOf_L20 (nI nd) far (nI u) g (nI a) (nI v) = some (nI s) := by
  intro m
  induction m with
  | zero =>
    intro v f g a h1 h2 h3
    obtain ⟨f, rfl⟩ : ∃ q, f = q + 1 := ⟨f - 1, by omega⟩
    obtain ⟨g, rfl⟩ : ∃ q, g = q + 1 := ⟨g - 1, by omega⟩
    rw [f_X2_sumOfAll_L14, f_X12_hurtOf_L20, if_pos (nI_le (by omega) (by omega)), if_pos (nI_le (by omega) (by omega))]
    exact ⟨a, by omega, rfl, rfl⟩
  | succ m ih =>
    intro v f g a h1 h2 h3
    obtain ⟨f, rfl⟩ : ∃ q, f = q + 1 := ⟨f - 1, by omega⟩
    obtain ⟨g, rfl⟩ : ∃ q, g = q + 1 := ⟨g - 1, by omega⟩
    obtain ⟨r, b1, b2, b3⟩ := between_K hF hn hu (show v < nd by omega)
    rw [f_X2_sumOfAll_L14, f_X12_hurtOf_L20, if_neg (nI_ge (by omega) (by omega)), if_neg (nI_ge (by omega) (by omega)), b1, b2, Option.bind_some, Option.bind_some, nI_1]
    rcases b3 with rfl | ⟨k, hk, rfl⟩
    · rw [if_pos rfl, if_pos rfl]
      have e1 : nI a + 100 = nI (a + 100) := nI_add a 100
      rw [e1]
      obtain ⟨s, q1, q2, q3⟩ := ih (v + 1) f g (a + 100) (by omega) (by omega) (by omega)
      exact ⟨s, by omega, q2, q3⟩
    · have en9 : ¬ nI k = -9 := by
        intro p
        have := negN (a := 9) (by omega) (by omega) k (by omega)
        exact (this ▸ p : False)
      rw [if_neg en9, if_neg en9, nI_add]
      obtain ⟨s, q1, q2, q3⟩ := ih (v + 1) f g (a + k) (by omega) (by omega) (by omega)
      exact ⟨s, by omega, q2, q3⟩
theorem sum_u {nd N : Nat} {sm far : ar} (hF : FM nd 999 sm far) (hN : 7 ≤ N) (hn : nd ≤ 6) : ∀ (m u f g : Nat) (a : Nat), u + m = nd → m < f → m < g → ∃ s : Nat, s ≤ a + 5994 * m ∧ f_X2_sumOfAll_L4 sm (nI nd) N f (nI a) (nI u) = some (nI s) ∧ f_X12_hurtOf_L9 (nI nd) N far g (nI a) (nI u) = some (nI s) := by
  intro m
  induction m with
  | zero =>
    intro v f g a h1 h2 h3
    obtain ⟨f, rfl⟩ : ∃ q, f = q + 1 := ⟨f - 1, by omega⟩
    obtain ⟨g, rfl⟩ : ∃ q, g = q + 1 := ⟨g - 1, by omega⟩
    rw [f_X2_sumOfAll_L4, f_X12_hurtOf_L9, if_pos (nI_le (by omega) (by omega)), if_pos (nI_le (by omega) (by omega))]
    exact ⟨a, by omega, rfl, rfl⟩
  | succ m ih =>
    intro u f g a h1 h2 h3
    obtain ⟨f, rfl⟩ : ∃ q, f = q + 1 := ⟨f - 1, by omega⟩
    obtain ⟨g, rfl⟩ : ∃ q, g = q + 1 := ⟨g - 1, by omega⟩
    rw [f_X2_sumOfAll_L4, f_X12_hurtOf_L9, if_neg (nI_ge (by omega) (by omega)), if_neg (nI_ge (by omega) (by omega)), nI_1]
    obtain ⟨s1, q1, q2, q3⟩ := sum_v hF hn (show u < nd by omega) nd 0 N N a (by omega) (by omega) (by omega)
    have e4 : nI 0 = 0 := rfl
    rw [e4] at q2 q3
    rw [q2, q3, Option.bind_some, Option.bind_some]
    obtain ⟨s, p1, p2, p3⟩ := ih (u + 1) f g s1 (by omega) (by omega) (by omega)
    exact ⟨s, by omega, p2, p3⟩
/-- hurt, on both sides -/
theorem hurt_K {nd N : Nat} {dl row : ar} (hK : LK nd dl row) (hN : 7 ≤ N) (hn : nd ≤ 6) {w : Option Nat} (hw : ∀ k, w = some k → k < 36) (sm far : ar) : ∃ (s : Nat) (sm' far' : ar), s < 2147483648 ∧ f_X11_hurtWithout N (nI nd) dl sm (encB w) = some (nI s, nI nd, sm') ∧ f_X12_hurtOf N (nI nd) row far (enc w) = some (nI s, far') := by
  obtain ⟨sm', far', h1, h2, h3⟩ := measure_K hK hN hn hw sm far
  obtain ⟨s, q1, q2, q3⟩ := sum_u h3 hN hn nd 0 N N 0 (by omega) (by omega) (by omega)
  have e4 : nI 0 = 0 := rfl
  rw [e4] at q2 q3
  refine ⟨s, sm', far', by omega, ?_, ?_⟩
  · unfold f_X11_hurtWithout f_X2_sumOfAll
    rw [h1, Option.bind_some]
    dsimp only
    rw [q2]
    rfl
  · unfold f_X12_hurtOf
    rw [h2, Option.bind_some, q3]
    rfl
