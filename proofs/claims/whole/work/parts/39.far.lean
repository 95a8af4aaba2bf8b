/-! least ways -/
def FR (M : Nat) (x y : Int32) : Prop := (x = 1000000 ∧ y = 1000) ∨ ∃ k : Nat, k ≤ M ∧ x = nI k ∧ y = nI k
theorem FR.mono {M M' : Nat} {x y : Int32} (h : FR M x y) (hm : M ≤ M') : FR M' x y := by
  rcases h with h | ⟨k, h1, h2⟩
  · exact Or.inl h
  · exact Or.inr ⟨k, by omega, h2⟩
theorem FR.toInt {M : Nat} {x y : Int32} (hM : M < 1000) (h : FR M x y) : (x.toInt = 1000000 ∧ y.toInt = 1000) ∨ ∃ k : Nat, k ≤ M ∧ x = nI k ∧ y = nI k ∧ x.toInt = k ∧ y.toInt = k := by
  rcases h with ⟨rfl, rfl⟩ | ⟨k, h1, rfl, rfl⟩
  · exact Or.inl ⟨rfl, rfl⟩
  · exact Or.inr ⟨k, h1, rfl, rfl, nI_toInt (by omega), nI_toInt (by omega)⟩
/-- one mending of a least way, on both sides -/
theorem FR.step {M : Nat} {a b o a' b' o' : Int32} (hM : 2 * M < 1000) (ha : FR M a a') (hb : FR M b b') (ho : FR (2 * M) o o') : FR (2 * M) (if a + b < o then a + b else o) (if o' ≤ a' + b' then o' else a' + b') := by
  have eF : (1000000 : Int32) = nI 1000000 := rfl
  have eG : (1000 : Int32) = nI 1000 := rfl
  rcases ha with ⟨rfl, rfl⟩ | ⟨k1, h1, rfl, rfl⟩ <;> rcases hb with ⟨rfl, rfl⟩ | ⟨k2, h2, rfl, rfl⟩ <;> rcases ho with ⟨rfl, rfl⟩ | ⟨k3, h3, rfl, rfl⟩
  · rw [if_neg (by decide), if_pos (by decide)]; exact Or.inl ⟨rfl, rfl⟩
  · rw [eF, eG, nI_add, nI_add, if_neg (nI_nlt (by omega) (by omega)), if_pos (nI_le (by omega) (by omega))]; exact Or.inr ⟨k3, h3, rfl, rfl⟩
  · rw [eF, eG, nI_add, nI_add, if_neg (nI_nlt (by omega) (by omega)), if_pos (nI_le (by omega) (by omega))]; exact Or.inl ⟨rfl, rfl⟩
  · rw [eF, eG, nI_add, nI_add, if_neg (nI_nlt (by omega) (by omega)), if_pos (nI_le (by omega) (by omega))]; exact Or.inr ⟨k3, h3, rfl, rfl⟩
  · rw [eF, eG, nI_add, nI_add, if_neg (nI_nlt (by omega) (by omega)), if_pos (nI_le (by omega) (by omega))]; exact Or.inl ⟨rfl, rfl⟩
  · rw [eF, eG, nI_add, nI_add, if_neg (nI_nlt (by omega) (by omega)), if_pos (nI_le (by omega) (by omega))]; exact Or.inr ⟨k3, h3, rfl, rfl⟩
  · rw [eF, eG, nI_add, if_pos (nI_lt (by omega) (by omega)), if_neg (nI_ge (by omega) (by omega))]; exact Or.inr ⟨k1 + k2, by omega, rfl, rfl⟩
  · rw [nI_add]
    by_cases h : k1 + k2 < k3
    · rw [if_pos (nI_lt h (by omega)), if_neg (nI_ge h (by omega))]; exact Or.inr ⟨k1 + k2, by omega, rfl, rfl⟩
    · rw [if_neg (nI_nlt (by omega) (by omega)), if_pos (nI_le (by omega) (by omega))]; exact Or.inr ⟨k3, h3, rfl, rfl⟩
/-- a way and none behind it stays -/
theorem FR.stay {M : Nat} {a a' : Int32} (hM : M < 1000) (ha : FR M a a') : (if a + 0 < a then a + 0 else a) = a ∧ (if a' ≤ a' + 0 then a' else a' + 0) = a' ∧ (if 0 + a < a then 0 + a else a) = a ∧ (if a' ≤ 0 + a' then a' else 0 + a') = a' := by
  have e1 : a + 0 = a := by apply Int32.toInt_inj.mp; simp
  have e2 : a' + 0 = a' := by apply Int32.toInt_inj.mp; simp
  have e3 : 0 + a = a := by apply Int32.toInt_inj.mp; simp
  have e4 : 0 + a' = a' := by apply Int32.toInt_inj.mp; simp
  rw [e1, e2, e3, e4]
  refine ⟨?_, ?_, ?_, ?_⟩ <;> split <;> rfl
/-- all between nd nodes within a round by b -/
def FI (nd b M : Nat) (sm far : ar) : Prop := (∀ u, u < nd → sm (6 * u + u) = 0 ∧ far (6 * u + u) = 0) ∧ (∀ u, u < nd → FR M (sm (6 * u + b)) (far (6 * u + b)) ∧ FR M (sm (6 * b + u)) (far (6 * b + u))) ∧ ∀ u v, u < nd → v < nd → FR (2 * M) (sm (6 * u + v)) (far (6 * u + v))
theorem upd_id (f : ar) (k : Nat) : upd f k (f k) = f := by
  funext j
  unfold upd
  split
  · rename_i e; rw [e]
  · rfl
theorem FI_put {nd b M u v : Nat} {sm far : ar} (hM : 2 * M < 1000) (hn : nd ≤ 6) (hb : b < nd) (hu : u < nd) (hv : v < nd) (h : FI nd b M sm far) : FI nd b M (upd sm (6 * u + v) (if sm (6 * u + b) + sm (6 * b + v) < sm (6 * u + v) then sm (6 * u + b) + sm (6 * b + v) else sm (6 * u + v))) (upd far (6 * u + v) (if far (6 * u + v) ≤ far (6 * u + b) + far (6 * b + v) then far (6 * u + v) else far (6 * u + b) + far (6 * b + v))) := by
  obtain ⟨h1, h2, h3⟩ := h
  by_cases hvb : v = b
  · subst hvb
    have q := (h2 u hu).1.stay (by omega)
    have d := h1 v hv
    rw [d.1, d.2, q.1, q.2.1]
    have e1 : upd sm (6 * u + v) (sm (6 * u + v)) = sm := upd_id _ _
    have e2 : upd far (6 * u + v) (far (6 * u + v)) = far := upd_id _ _
    rw [e1, e2]
    exact ⟨h1, h2, h3⟩
  · by_cases hub : u = b
    · subst hub
      have q := (h2 v hv).2.stay (by omega)
      have d := h1 u hu
      rw [d.1, d.2, q.2.2.1, q.2.2.2]
      have e1 : upd sm (6 * u + v) (sm (6 * u + v)) = sm := upd_id _ _
      have e2 : upd far (6 * u + v) (far (6 * u + v)) = far := upd_id _ _
      rw [e1, e2]
      exact ⟨h1, h2, h3⟩
    · have hst := FR.step hM (h2 u hu).1 (h2 v hv).2 (h3 u v hu hv)
      refine ⟨fun w hw => ?_, fun w hw => ?_, fun w x hw hx => ?_⟩
      · by_cases e : 6 * w + w = 6 * u + v
        · have ew : w = u ∧ w = v := by omega
          obtain ⟨rfl, rfl⟩ := ew
          rw [pk_us, pk_us]
          have d := h1 w hw
          rw [d.1, d.2]
          rcases FR.toInt (by omega) (h2 w hw).1 with ⟨p1, p2⟩ | ⟨k1, p1, p2, p3, p4, p5⟩ <;> rcases FR.toInt (by omega) (h2 w hw).2 with ⟨r1, r2⟩ | ⟨k2, r1, r2, r3, r4, r5⟩
          · have a1 : sm (6 * w + b) = 1000000 := Int32.toInt_inj.mp p1
            have a2 : sm (6 * b + w) = 1000000 := Int32.toInt_inj.mp r1
            have a3 : far (6 * w + b) = 1000 := Int32.toInt_inj.mp p2
            have a4 : far (6 * b + w) = 1000 := Int32.toInt_inj.mp r2
            rw [a1, a2, a3, a4]; decide
          · have a1 : sm (6 * w + b) = nI 1000000 := Int32.toInt_inj.mp p1
            have a3 : far (6 * w + b) = nI 1000 := Int32.toInt_inj.mp p2
            rw [a1, r2, a3, r3, nI_add, nI_add, if_neg (nI_pos (by omega)), if_pos (nI_pos' (by omega))]
            exact ⟨rfl, rfl⟩
          · have a1 : sm (6 * b + w) = nI 1000000 := Int32.toInt_inj.mp r1
            have a3 : far (6 * b + w) = nI 1000 := Int32.toInt_inj.mp r2
            rw [a1, p2, a3, p3, nI_add, nI_add, if_neg (nI_pos (by omega)), if_pos (nI_pos' (by omega))]
            exact ⟨rfl, rfl⟩
          · rw [p2, r2, p3, r3, nI_add, if_neg (nI_pos (by omega)), if_pos (nI_pos' (by omega))]
            exact ⟨rfl, rfl⟩
        · rw [pk_un e, pk_un e]; exact h1 w hw
      · rw [pk_un (show 6 * w + b ≠ 6 * u + v by omega), pk_un (show 6 * w + b ≠ 6 * u + v by omega), pk_un (show 6 * b + w ≠ 6 * u + v by omega), pk_un (show 6 * b + w ≠ 6 * u + v by omega)]
        exact h2 w hw
      · by_cases e : 6 * w + x = 6 * u + v
        · rw [e, pk_us, pk_us]
          exact hst
        · rw [pk_un e, pk_un e]; exact h3 w x hw hx
theorem far_v {nd b M u : Nat} (hM : 2 * M < 1000) (hn : nd ≤ 6) (hb : b < nd) (hu : u < nd) : ∀ (m v f g : Nat) (sm far : ar), v + m = nd → m < f → m < g → FI nd b M sm far → ∃ sm' far', f_X2_measure_L90 (nI nd) (nI b) (nI u) f (nI v) sm = some sm' ∧ f_X12_laysFar_L114 (nI nd) (nI b) (nI u) g (nI v) far = some far' ∧ FI nd b M sm' far' := by
  intro m
  induction m with
  | zero =>
    intro v f g sm far h1 h2 h3 h
    obtain ⟨f, rfl⟩ : ∃ q, f = q + 1 := ⟨f - 1, by omega⟩
    obtain ⟨g, rfl⟩ : ∃ q, g = q + 1 := ⟨g - 1, by omega⟩
    rw [f_X2_measure_L90, f_X12_laysFar_L114, if_pos (nI_le (by omega) (by omega)), if_pos (nI_le (by omega) (by omega))]
    exact ⟨sm, far, rfl, rfl, h⟩
  | succ m ih =>
    intro v f g sm far h1 h2 h3 h
    obtain ⟨f, rfl⟩ : ∃ q, f = q + 1 := ⟨f - 1, by omega⟩
    obtain ⟨g, rfl⟩ : ∃ q, g = q + 1 := ⟨g - 1, by omega⟩
    have e6 : ∀ a b : Nat, (6 : Int32) * nI a + nI b = nI (6 * a + b) := fun a b => by
      have : (6 : Int32) * nI a = nI (6 * a) := pk_mul 6 a
      rw [this, nI_add]
    rw [f_X2_measure_L90, f_X12_laysFar_L114, if_neg (nI_ge (by omega) (by omega)), if_neg (nI_ge (by omega) (by omega))]
    simp (disch := omega) only [pairCell_N, Option.bind_some, ckN, clN, e6, nI_1]
    have hI := FI_put hM hn hb hu (show v < nd by omega) h
    obtain ⟨sm', far', i1, i2, i3⟩ := ih (v + 1) f g _ _ (by omega) (by omega) (by omega) hI
    refine ⟨sm', far', i1, ?_, i3⟩
    rw [← i2]
    by_cases hc : far (6 * u + v) ≤ far (6 * u + b) + far (6 * b + v)
    · rw [if_pos hc, if_pos hc]
    · rw [if_neg hc, if_neg hc]
theorem far_u {nd b M N : Nat} (hN : 7 ≤ N) (hM : 2 * M < 1000) (hn : nd ≤ 6) (hb : b < nd) : ∀ (m u f g : Nat) (sm far : ar), u + m = nd → m < f → m < g → FI nd b M sm far → ∃ sm' far', f_X2_measure_L78 (nI nd) N (nI b) f (nI u) sm = some sm' ∧ f_X12_laysFar_L103 (nI nd) N (nI b) g (nI u) far = some far' ∧ FI nd b M sm' far' := by
  intro m
  induction m with
  | zero =>
    intro v f g sm far h1 h2 h3 h
    obtain ⟨f, rfl⟩ : ∃ q, f = q + 1 := ⟨f - 1, by omega⟩
    obtain ⟨g, rfl⟩ : ∃ q, g = q + 1 := ⟨g - 1, by omega⟩
    rw [f_X2_measure_L78, f_X12_laysFar_L103, if_pos (nI_le (by omega) (by omega)), if_pos (nI_le (by omega) (by omega))]
    exact ⟨sm, far, rfl, rfl, h⟩
  | succ m ih =>
    intro u f g sm far h1 h2 h3 h
    obtain ⟨f, rfl⟩ : ∃ q, f = q + 1 := ⟨f - 1, by omega⟩
    obtain ⟨g, rfl⟩ : ∃ q, g = q + 1 := ⟨g - 1, by omega⟩
    rw [f_X2_measure_L78, f_X12_laysFar_L103, if_neg (nI_ge (by omega) (by omega)), if_neg (nI_ge (by omega) (by omega)), nI_1]
    obtain ⟨sm1, far1, j1, j2, j3⟩ := far_v hM hn hb (show u < nd by omega) nd 0 N N sm far (by omega) (by omega) (by omega) h
    have e4 : nI 0 = 0 := rfl
    rw [e4] at j1 j2
    rw [j1, j2]
    exact ih (u + 1) f g sm1 far1 (by omega) (by omega) (by omega) j3
def FM (nd M : Nat) (sm far : ar) : Prop := (∀ u, u < nd → sm (6 * u + u) = 0 ∧ far (6 * u + u) = 0) ∧ ∀ u v, u < nd → v < nd → FR M (sm (6 * u + v)) (far (6 * u + v))
theorem far_b {nd N : Nat} (hN : 7 ≤ N) (hn : nd ≤ 6) : ∀ (m b f g : Nat) (sm far : ar), b + m = nd → m < f → m < g → FM nd (9 * 2 ^ b) sm far → ∃ sm' far', f_X2_measure_L66 (nI nd) N f (nI b) sm = some sm' ∧ f_X12_laysFar_L93 (nI nd) N g (nI b) far = some far' ∧ FM nd 999 sm' far' := by
  intro m
  induction m with
  | zero =>
    intro v f g sm far h1 h2 h3 h
    obtain ⟨f, rfl⟩ : ∃ q, f = q + 1 := ⟨f - 1, by omega⟩
    obtain ⟨g, rfl⟩ : ∃ q, g = q + 1 := ⟨g - 1, by omega⟩
    rw [f_X2_measure_L66, f_X12_laysFar_L93, if_pos (nI_le (by omega) (by omega)), if_pos (nI_le (by omega) (by omega))]
    refine ⟨sm, far, rfl, rfl, h.1, fun u w hu hw => (h.2 u w hu hw).mono ?_⟩
    have : 2 ^ v ≤ 2 ^ 6 := Nat.pow_le_pow_right (by omega) (by omega)
    omega
  | succ m ih =>
    intro b f g sm far h1 h2 h3 h
    obtain ⟨f, rfl⟩ : ∃ q, f = q + 1 := ⟨f - 1, by omega⟩
    obtain ⟨g, rfl⟩ : ∃ q, g = q + 1 := ⟨g - 1, by omega⟩
    have hp : 2 ^ b ≤ 2 ^ 5 := Nat.pow_le_pow_right (by omega) (by omega)
    have hp2 : 2 ^ (b + 1) = 2 * 2 ^ b := by rw [Nat.pow_succ]; omega
    rw [f_X2_measure_L66, f_X12_laysFar_L93, if_neg (nI_ge (by omega) (by omega)), if_neg (nI_ge (by omega) (by omega)), nI_1]
    have hI : FI nd b (9 * 2 ^ b) sm far := ⟨h.1, fun u hu => ⟨h.2 u b hu (by omega), h.2 b u (by omega) hu⟩, fun u v hu hv => (h.2 u v hu hv).mono (by omega)⟩
    obtain ⟨sm1, far1, j1, j2, j3⟩ := far_u hN (by omega) hn (show b < nd by omega) nd 0 N N sm far (by omega) (by omega) (by omega) hI
    have e4 : nI 0 = 0 := rfl
    rw [e4] at j1 j2
    rw [j1, j2]
    refine ih (b + 1) f g sm1 far1 (by omega) (by omega) (by omega) ⟨j3.1, fun u v hu hv => (j3.2.2 u v hu hv).mono ?_⟩
    rw [hp2]
    omega
