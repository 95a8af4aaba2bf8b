/-! links laid, cut, changed -/
theorem pr_eq {a b u v : Nat} (ha : a < 6) (hb : b < 6) (hu : u < 6) (hv : v < 6) (hab : a ≠ b) (huv : u ≠ v) (h : pr a b = pr u v) : (a = u ∧ b = v) ∨ (a = v ∧ b = u) := by
  unfold pr at h
  split at h <;> split at h <;> omega
theorem pr_sym (u v : Nat) (huv : u ≠ v) : pr v u = pr u v := by
  unfold pr
  by_cases h : v ≤ u
  · rw [if_neg (by omega), if_pos h]
  · rw [if_pos (by omega), if_neg h]
theorem LK_put {nd : Nat} {dl row : ar} {u v d : Nat} (hK : LK nd dl row) (hn : nd ≤ 6) (hu : u < nd) (hv : v < nd) (huv : u ≠ v) (hd : d ≤ 9) : LK nd (upd (upd dl (6 * u + v) (nI d)) (6 * v + u) (nI d)) (upd row (118 + pr u v) (nI d)) := by
  have hp := pr_lt (show u < 6 by omega) (show v < 6 by omega)
  obtain ⟨h1, h2, h3, h4, h5⟩ := hK
  have hval : ∀ a b, a < 6 → b < 6 → upd (upd dl (6 * u + v) (nI d)) (6 * v + u) (nI d) (6 * a + b) = if (a = u ∧ b = v) ∨ (a = v ∧ b = u) then nI d else dl (6 * a + b) := by
    intro a b ha hb
    unfold upd
    by_cases e1 : 6 * a + b = 6 * v + u
    · rw [if_pos e1, if_pos (by omega)]
    · rw [if_neg e1]
      by_cases e2 : 6 * a + b = 6 * u + v
      · rw [if_pos e2, if_pos (by omega)]
      · rw [if_neg e2, if_neg (by omega)]
  refine ⟨fun a b ha hb hab => ?_, fun a ha => ?_, fun a b ha hb hab => ?_, fun a b ha hb => ?_, fun a b ha hb hab => ?_⟩
  · rw [hval a b ha hb]
    by_cases e : (a = u ∧ b = v) ∨ (a = v ∧ b = u)
    · rw [if_pos e]
      have : pr a b = pr u v := by
        rcases e with ⟨rfl, rfl⟩ | ⟨rfl, rfl⟩
        · rfl
        · exact pr_sym _ _ (by omega)
      rw [this, pk_us]
    · rw [if_neg e, pk_un (fun q => e (pr_eq ha hb (by omega) (by omega) hab huv (by omega)))]
      exact h1 a b ha hb hab
  · rw [hval a a ha ha, if_neg (by omega)]
    exact h2 a ha
  · have hne : 118 + (6 * a + b) ≠ 118 + pr u v := by
      intro q
      unfold pr at q
      split at q <;> omega
    rw [pk_un hne]
    exact h3 a b ha hb hab
  · rw [hval a b ha hb]
    split
    · rw [nI_toInt (by omega)]; omega
    · exact h4 a b ha hb
  · rw [hval a b ha hb, if_neg (by omega)]
    exact h5 a b ha hb hab
theorem cnt_put {row : ar} {p d : Nat} (hp : p < 36) (hd : d ≤ 9) : cntF (lf (upd row (118 + p) (nI d))) 36 0 + (if lf row p = true then 1 else 0) = cntF (lf row) 36 0 + (if 0 < d then 1 else 0) := by
  have := cnt_one (lf row) (lf (upd row (118 + p) (nI d))) p 36 0 (by omega) (by omega) (fun i hi => by unfold lf; rw [pk_un (show 118 + i ≠ 118 + p by omega)])
  have e : (lf (upd row (118 + p) (nI d)) p = true) = (0 < d) := by
    unfold lf
    rw [pk_us, nI_toInt (by omega)]
    apply propext
    rw [decide_eq_true_eq]
    omega
  simp only [e] at this
  exact this
/-- a link's delay set, nothing else changed -/
theorem RK_put {nd B : Nat} {dl : ar} {lt : Int32} {hp gs md ct xp wn : ar} {wz tm : Int32} {row : ar} {u v d : Nat} (hn : nd ≤ 6) (hu : u < nd) (hv : v < nd) (huv : u ≠ v) (hd : d ≤ 9) (hR : RK nd B dl lt hp gs md ct xp wn wz tm row) {lt' : Int32} (hl : lt' = nI (cntF (lf (upd row (118 + pr u v) (nI d))) 36 0)) (hl2 : cntF (lf (upd row (118 + pr u v) (nI d))) 36 0 ≤ 10) : RK nd B (upd (upd dl (6 * u + v) (nI d)) (6 * v + u) (nI d)) lt' hp gs md ct xp wn wz tm (upd row (118 + pr u v) (nI d)) := by
  have hp' := pr_lt (show u < 6 by omega) (show v < 6 by omega)
  obtain ⟨h1, h2, h3, h4, h5, ⟨h6, t, ht, h6b⟩, h7⟩ := hR
  have q : ∀ k, (k < 118 ∨ 154 ≤ k) → upd row (118 + pr u v) (nI d) k = row k := fun k hk => pk_un (by omega)
  refine ⟨LK_put h1 hn hu hv huv hd, ⟨hl, hl2⟩, fun a b hab hb => by rw [q _ (by omega)]; exact h3 a b hab hb, h4.rc2 (fun k a b => q k (by omega)), fun k hk => by rw [q _ (by omega), q _ (by omega)]; exact h5 k hk, ⟨by rw [q 0 (by omega)]; exact h6, t, ht, h6b⟩, ?_⟩
  rcases h7 with ⟨a, b⟩ | ⟨h, a, b, c, d'⟩
  · exact Or.inl ⟨a, by rw [q 1 (by omega)]; exact b⟩
  · exact Or.inr ⟨h, a, b, by rw [q 1 (by omega)]; exact c, fun k hk => by rw [q (2 + k) (by omega)]; exact d' k hk⟩
theorem put_N {dl : ar} {lt d : Int32} {u v : Nat} (hu : u < 6) (hv : v < 6) : f_X3_put dl lt (nI u) (nI v) d = some (if dl (6 * u + v) = 0 then lt + 1 else lt, upd (upd dl (6 * u + v) d) (6 * v + u) d) := by
  unfold f_X3_put
  rw [delayOf_N hu hv, Option.bind_some, pairCell_N, pairCell_N]
  simp (disch := omega) only [ckN, clN, Option.bind_some]
  by_cases h : dl (6 * u + v) = 0
  · rw [if_pos h, if_pos h]; rfl
  · rw [if_neg h, if_neg h]; rfl
theorem take_N {dl : ar} {lt : Int32} {u v : Nat} (hu : u < 6) (hv : v < 6) (hb : nbr dl u v) : f_X3_takeAway dl lt (nI u) (nI v) = some (lt - 1, upd (upd dl (6 * u + v) 0) (6 * v + u) 0) := by
  unfold f_X3_takeAway
  rw [delayOf_N hu hv, Option.bind_some, pairCell_N, pairCell_N]
  simp (disch := omega) only [ckN, clN, Option.bind_some]
  rw [if_neg (show ¬ dl (6 * u + v) ≤ 0 from by rw [nle0]; exact fun q => q hb)]
  rfl
theorem cutG {gs : ar} {u v : Nat} (hu : u < 6) (hv : v < 6) : ∀ (m d f g : Nat) (md row : ar), d + m = 6 → m < f → m < g → GD md gs row → ∃ md' row', f_X1_takeAway_L22 (nI u) (nI v) f (nI d) md = some md' ∧ f_X12_noGuesses_L2 (nI u) (nI v) g (nI d) row = some row' ∧ GD md' gs row' ∧ ∀ k, k < 190 → row' k = row k := by
  intro m
  induction m with
  | zero =>
    intro d f g md row h1 h2 h3 h
    obtain ⟨f, rfl⟩ : ∃ q, f = q + 1 := ⟨f - 1, by omega⟩
    obtain ⟨g, rfl⟩ : ∃ k, g = k + 1 := ⟨g - 1, by omega⟩
    rw [f_X1_takeAway_L22, f_X12_noGuesses_L2, if_pos (show (6 : Int32) ≤ nI d from nI_le (a := 6) (by omega) (by omega)), if_pos (show (6 : Int32) ≤ nI d from nI_le (a := 6) (by omega) (by omega))]
    exact ⟨md, row, rfl, rfl, h, fun _ _ => rfl⟩
  | succ m ih =>
    intro d f g md row h1 h2 h3 h
    obtain ⟨f, rfl⟩ : ∃ q, f = q + 1 := ⟨f - 1, by omega⟩
    obtain ⟨g, rfl⟩ : ∃ k, g = k + 1 := ⟨g - 1, by omega⟩
    have h190 : ∀ c : Nat, (190 : Int32) + nI c = nI (190 + c) := fun c => nI_add 190 c
    have h406 : ∀ c : Nat, (406 : Int32) + nI c = nI (406 + c) := fun c => nI_add 406 c
    rw [f_X1_takeAway_L22, f_X12_noGuesses_L2, if_neg (show ¬ (6 : Int32) ≤ nI d from nI_ge (a := d) (b := 6) (by omega) (by omega)), if_neg (show ¬ (6 : Int32) ≤ nI d from nI_ge (a := d) (b := 6) (by omega) (by omega))]
    simp (disch := omega) only [guessCell_N, guessAt_N, Option.bind_some, h190, h406, ckN, clN, nI_1]
    generalize hc1 : 36 * u + 6 * d + v = c1
    generalize hc2 : 36 * v + 6 * d + u = c2
    have hG : GD (upd (upd md c1 0) c2 0) gs (upd (upd (upd (upd row (406 + c1) (-1)) (406 + c2) (-1)) (190 + c1) 0) (190 + c2) 0) := by
      intro c hc
      by_cases e2 : c = c2
      · subst e2
        rw [pk_us]
        refine Or.inl ⟨rfl, ?_⟩
        simp (disch := omega) only [pk_un, pk_us]
      · by_cases e1 : c = c1
        · subst e1
          rw [pk_un e2, pk_us]
          refine Or.inl ⟨rfl, ?_⟩
          simp (disch := omega) only [pk_un, pk_us]
        · rw [pk_un e2, pk_un e1]
          simp (disch := omega) only [pk_un]
          exact h c hc
    obtain ⟨md', row', i1, i2, i3, i4⟩ := ih (d + 1) f g _ _ (by omega) (by omega) (by omega) hG
    refine ⟨md', row', i1, i2, i3, fun k hk => ?_⟩
    rw [i4 k hk]
    simp (disch := omega) only [pk_un]
/-- a link cut, on both sides -/
theorem RK_cut {N nd B : Nat} {dl : ar} {lt : Int32} {hp gs md ct xp wn : ar} {wz tm : Int32} {row : ar} {k : Nat} (hN : 7 ≤ N) (hn : nd ≤ 6) (hk : k < 36) (hp0 : 0 < (row (118 + k)).toInt) (hR : RK nd B dl lt hp gs md ct xp wn wz tm row) : ∃ lt' dl' hp' md' row', f_X1_takeAway N dl lt hp md (nI (k / 6)) (nI (k % 6)) = some (lt', dl', hp', md') ∧ f_X12_noGuesses N (upd (upd row (118 + k) 0) (154 + k) 0) (nI (k / 6)) (nI (k % 6)) = some row' ∧ RK nd B dl' lt' hp' gs md' ct xp wn wz tm row' ∧ lt' = nI (cntF (lf row') 36 0) := by
  obtain ⟨a1, a2, a3, a4, a5, a6⟩ := hR.1.pair hk hp0
  have hpr : pr (k / 6) (k % 6) = k := by unfold pr; rw [if_neg (by omega)]; omega
  have hnb : nbr dl (k / 6) (k % 6) := by unfold nbr; rw [← a3, a4]; exact hp0
  have hcnt := cnt_put (row := row) (d := 0) hk (by omega)
  rw [if_pos (show lf row k = true from decide_eq_true hp0), if_neg (by omega)] at hcnt
  have hle := hR.2.1.2
  have hput := RK_put (d := 0) (lt' := nI (cntF (lf (upd row (118 + pr (k / 6) (k % 6)) (nI 0))) 36 0)) hn a5 a6 (by omega) (by omega) hR rfl (by rw [hpr]; omega)
  rw [hpr] at hput
  obtain ⟨h1, h2, h3, h4, h5, ⟨h6, t, ht, h6b⟩, h7⟩ := hput
  have hG2 : GD md gs (upd (upd row (118 + k) 0) (154 + k) 0) := h4.rc2 (fun j _ _ => pk_un (by omega))
  obtain ⟨md', row', i1, i2, i3, i4⟩ := cutG (gs := gs) (show k / 6 < 6 by omega) (show k % 6 < 6 by omega) 6 0 N N md (upd (upd row (118 + k) 0) (154 + k) 0) (by omega) (by omega) (by omega) hG2
  have e4 : nI 0 = 0 := rfl
  rw [e4] at i1 i2 h1 h2 h3 h5 h6 h7
  have q : ∀ j, j < 190 → j ≠ 154 + k → row' j = upd row (118 + k) 0 j := fun j hj hne => by rw [i4 j hj, pk_un hne]
  have hcs : cntF (lf row') 36 0 = cntF (lf (upd row (118 + k) 0)) 36 0 := cnt_same _ _ _ _ (fun i _ hi => by unfold lf; rw [q _ (by omega) (by omega)])
  refine ⟨nI (cntF (lf (upd row (118 + k) 0)) 36 0), _, upd hp k 0, md', row', ?_, ?_, ⟨h1.rc2 (fun j _ _ => q j (by omega) (by omega)), ⟨by rw [hcs], by rw [hcs]; exact h2.2⟩, fun a b hab hb => ?_, i3, fun j hj => by rw [q _ (by omega) (by omega), q _ (by omega) (by omega)]; exact h5 j hj, ⟨by rw [q 0 (by omega) (by omega)]; exact h6, t, ht, h6b⟩, ?_⟩, by rw [hcs]⟩
  · unfold f_X1_takeAway
    rw [take_N (show k / 6 < 6 by omega) a2 hnb, Option.bind_some, pairCell_N, Option.bind_some, ← a3]
    simp (disch := omega) only [ckN, clN]
    rw [i1, Option.bind_some]
    have hlt := hR.2.1.1
    have : lt - 1 = nI (cntF (lf (upd row (118 + k) 0)) 36 0) := by
      rw [e4] at hcnt
      rw [hlt, ← show cntF (lf (upd row (118 + k) 0)) 36 0 + 1 = cntF (lf row) 36 0 by omega]
      exact nI_pred _
    rw [this]
  · unfold f_X12_noGuesses
    rw [i2]
    rfl
  · by_cases e : 6 * a + b = k
    · rw [e, pk_us, i4 _ (by omega), pk_us]
    · rw [pk_un e, q _ (by omega) (by omega), pk_un (by omega)]
      have := h3 a b hab hb
      rw [pk_un (show 154 + (6 * a + b) ≠ 118 + k by omega)] at this
      exact this
  · rcases h7 with ⟨a, b⟩ | ⟨h, a, b, c, d'⟩
    · exact Or.inl ⟨a, by rw [q 1 (by omega) (by omega)]; exact b⟩
    · exact Or.inr ⟨h, a, b, by rw [q 1 (by omega) (by omega)]; exact c, fun j hj => by rw [q (2 + j) (by omega) (by omega)]; exact d' j hj⟩
