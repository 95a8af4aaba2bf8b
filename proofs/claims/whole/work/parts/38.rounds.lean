/-! rounds of letters -/
theorem kdiv {nd i u g : Nat} (h2 : 2 ≤ nd) (h6 : nd ≤ 6) (hu : u < nd) (hg : g < nd) : ((nd * i + u) * nd + g) / nd = nd * i + u ∧ ((nd * i + u) * nd + g) % nd = g ∧ (nd * i + u) % nd = u := by
  rcases (show nd = 2 ∨ nd = 3 ∨ nd = 4 ∨ nd = 5 ∨ nd = 6 by omega) with rfl | rfl | rfl | rfl | rfl <;> omega
theorem round_in {N nd life n i : Nat} {re rh ra rf lt : Int32} {dl : ar} (hN : 1000 ≤ N) (h2 : 2 ≤ nd) (hn : nd ≤ 6) (hl : life ≤ 99) (hi : i < n) (hn4 : n ≤ 4) {u : Nat} (hu : u < nd) : ∀ (m g thr T0 B fl : Nat) (hp gs md ct xp wn : ar) (wz tm : Int32) (row : ar), g + m = nd → m < fl → B + 100 * m < 2147483648 → RK nd B dl lt hp gs md ct xp wn wz tm row → ∃ thr' wz' tm' hp' gs' md' ct' xp' wn' row', f_X5_deliverRound_L17 (nI nd) re rh ra (nI life) rf dl N (nI u) fl (nI thr) (nI g) wz tm hp gs md ct xp wn = some (nI thr', wz', tm', hp', gs', md', ct', xp', wn') ∧ (∀ q, f_X12_rounds_L19 (nI nd) re rh ra (nI life) rf (nI n) N (q + m) (nI (T0 + thr)) (nI ((nd * i + u) * nd + g)) row = f_X12_rounds_L19 (nI nd) re rh ra (nI life) rf (nI n) N q (nI (T0 + thr')) (nI ((nd * i + u) * nd + g + m)) row') ∧ RK nd (B + 100 * m) dl lt hp' gs' md' ct' xp' wn' wz' tm' row' ∧ thr' ≤ thr + m := by
  intro m
  induction m with
  | zero =>
    intro g thr T0 B fl hp gs md ct xp wn wz tm row h1 h3 h4 hR
    obtain ⟨f, rfl⟩ : ∃ f, fl = f + 1 := ⟨fl - 1, by omega⟩
    have : g = nd := by omega
    subst this
    rw [f_X5_deliverRound_L17, if_pos (nI_le (Nat.le_refl _) (by omega))]
    exact ⟨thr, wz, tm, hp, gs, md, ct, xp, wn, row, rfl, fun q => rfl, hR.mono (by omega), by omega⟩
  | succ m ih =>
    intro g thr T0 B fl hp gs md ct xp wn wz tm row h1 h3 h4 hR
    obtain ⟨f, rfl⟩ : ∃ f, fl = f + 1 := ⟨fl - 1, by omega⟩
    obtain ⟨k1, k2, k3⟩ := kdiv (i := i) h2 hn hu (show g < nd by omega)
    have hsz : nd * i + u ≤ 23 := by
      rcases (show nd = 2 ∨ nd = 3 ∨ nd = 4 ∨ nd = 5 ∨ nd = 6 by omega) with rfl | rfl | rfl | rfl | rfl <;> omega
    have hKs : (nd * i + u) * nd + g < 200 := by
      rcases (show nd = 2 ∨ nd = 3 ∨ nd = 4 ∨ nd = 5 ∨ nd = 6 by omega) with rfl | rfl | rfl | rfl | rfl <;> omega
    have hKb : (nd * i + u) * nd + g < n * nd * nd := by
      rcases (show nd = 2 ∨ nd = 3 ∨ nd = 4 ∨ nd = 5 ∨ nd = 6 by omega) with rfl | rfl | rfl | rfl | rfl <;> omega
    have hnn : n * nd * nd < 200 := by
      rcases (show nd = 2 ∨ nd = 3 ∨ nd = 4 ∨ nd = 5 ∨ nd = 6 by omega) with rfl | rfl | rfl | rfl | rfl <;> omega
    generalize hK : (nd * i + u) * nd + g = K at k1 k2 hKs hKb
    have hdv : nI K / nI nd = nI (nd * i + u) := by rw [pk_div (by omega) (by omega) (by omega), k1]
    have hu' : nI (nd * i + u) - nI (nd * i + u) / nI nd * nI nd = nI u := by rw [pk_rem (by omega) (by omega) (by omega), k3]
    have hg' : nI K - nI (nd * i + u) * nI nd = nI g := by
      have := pk_rem (a := K) (d := nd) (by omega) (by omega) (by omega)
      rw [hdv, k2] at this
      exact this
    have hnz : nz (nI nd) = true := decide_eq_true (nI_ne0 (by omega) (by omega))
    have hstep : ∀ q, f_X12_rounds_L19 (nI nd) re rh ra (nI life) rf (nI n) N (q + (m + 1)) (nI (T0 + thr)) (nI K) row = if nI u = nI g then f_X12_rounds_L19 (nI nd) re rh ra (nI life) rf (nI n) N (q + m) (nI (T0 + thr)) (nI (K + 1)) row else (f_X12_letter N (nI nd) re rh ra (nI life) rf row (nI u) (nI g)).bind fun r_3 => if r_3.1 < 0 then f_X12_rounds_L19 (nI nd) re rh ra (nI life) rf (nI n) N (q + m) (nI (T0 + thr)) (nI (K + 1)) r_3.2 else f_X12_rounds_L19 (nI nd) re rh ra (nI life) rf (nI n) N (q + m) (nI (T0 + thr + 1)) (nI (K + 1)) r_3.2 := by
      intro q
      rw [show q + (m + 1) = (q + m) + 1 by omega, f_X12_rounds_L19]
      have e1 : nI n * nI nd * nI nd = nI (n * nd * nd) := by rw [pk_mul, pk_mul]
      have ez : nI (T0 + thr) + 0 = nI (T0 + thr) := nI_add _ 0
      rw [e1, if_neg (nI_ge hKb (by omega)), hnz, hdv, hu', hg', ez, nI_1, nI_1]
      rfl
    rw [f_X5_deliverRound_L17, if_neg (nI_ge (by omega) (by omega)), nI_1, nI_1]
    by_cases hug : u = g
    · subst hug
      rw [if_pos rfl]
      obtain ⟨thr', wz', tm', hp', gs', md', ct', xp', wn', row', i1, i2, i3, i4⟩ := ih (u + 1) thr T0 B f hp gs md ct xp wn wz tm row (by omega) (by omega) (by omega) hR
      refine ⟨thr', wz', tm', hp', gs', md', ct', xp', wn', row', i1, fun q => ?_, i3.mono (by omega), by omega⟩
      rw [hstep q, if_pos rfl]
      have := i2 q
      rw [show (nd * i + u) * nd + (u + 1) = K + 1 by omega] at this
      rw [this]
      congr 2
      omega
    · have hne : ¬ nI u = nI g := fun e => hug ((nI_eq (by omega) (by omega)).mp e)
      rw [if_neg hne]
      obtain ⟨r, wz1, tm1, hp1, gs1, md1, ct1, xp1, wn1, row1, l1, l2, l3, l4⟩ := letter_K (re := re) (rh := rh) (ra := ra) (rf := rf) (life := life) (g := g) (u := u) (N := N) (by omega) (by omega) hn (by omega) hu hl (by omega) hR
      rw [l1, Option.bind_some]
      dsimp only
      rcases l4 with rfl | ⟨k, hk, rfl⟩
      · rw [if_pos rfl]
        obtain ⟨thr', wz', tm', hp', gs', md', ct', xp', wn', row', i1, i2, i3, i4⟩ := ih (g + 1) thr T0 (B + 100) f hp1 gs1 md1 ct1 xp1 wn1 wz1 tm1 row1 (by omega) (by omega) (by omega) l3
        refine ⟨thr', wz', tm', hp', gs', md', ct', xp', wn', row', i1, fun q => ?_, i3.mono (by omega), by omega⟩
        rw [hstep q, if_neg hne, l2, Option.bind_some]
        dsimp only
        rw [if_pos (by decide)]
        have := i2 q
        rw [show (nd * i + u) * nd + (g + 1) = K + 1 by omega] at this
        rw [this]
        congr 2
        omega
      · have en9 : ¬ nI k = -9 := by
          intro p
          have := negN (a := 9) (by omega) (by omega) k hk
          exact (this ▸ p : False)
        rw [if_neg en9]
        obtain ⟨thr', wz', tm', hp', gs', md', ct', xp', wn', row', i1, i2, i3, i4⟩ := ih (g + 1) (thr + 1) T0 (B + 100) f hp1 gs1 md1 ct1 xp1 wn1 wz1 tm1 row1 (by omega) (by omega) (by omega) l3
        refine ⟨thr', wz', tm', hp', gs', md', ct', xp', wn', row', i1, fun q => ?_, i3.mono (by omega), by omega⟩
        rw [hstep q, if_neg hne, l2, Option.bind_some]
        dsimp only
        rw [if_neg (nI_pos (by omega))]
        have := i2 q
        rw [show (nd * i + u) * nd + (g + 1) = K + 1 by omega, show T0 + (thr + 1) = T0 + thr + 1 by omega] at this
        rw [this]
        congr 2
        omega
theorem round_out {N nd life n i : Nat} {re rh ra rf lt : Int32} {dl : ar} (hN : 1000 ≤ N) (h2 : 2 ≤ nd) (hn : nd ≤ 6) (hl : life ≤ 99) (hi : i < n) (hn4 : n ≤ 4) : ∀ (m u thr T0 B fl : Nat) (hp gs md ct xp wn : ar) (wz tm : Int32) (row : ar), u + m = nd → m < fl → B + 600 * m < 2147483648 → RK nd B dl lt hp gs md ct xp wn wz tm row → ∃ thr' wz' tm' hp' gs' md' ct' xp' wn' row', f_X5_deliverRound_L4 (nI nd) re rh ra (nI life) rf dl N fl (nI thr) (nI u) wz tm hp gs md ct xp wn = some (nI thr', wz', tm', hp', gs', md', ct', xp', wn') ∧ (∀ q, f_X12_rounds_L19 (nI nd) re rh ra (nI life) rf (nI n) N (q + nd * m) (nI (T0 + thr)) (nI ((nd * i + u) * nd)) row = f_X12_rounds_L19 (nI nd) re rh ra (nI life) rf (nI n) N q (nI (T0 + thr')) (nI ((nd * i + nd) * nd)) row') ∧ RK nd (B + 600 * m) dl lt hp' gs' md' ct' xp' wn' wz' tm' row' ∧ thr' ≤ thr + 6 * m := by
  intro m
  induction m with
  | zero =>
    intro u thr T0 B fl hp gs md ct xp wn wz tm row h1 h3 h4 hR
    obtain ⟨f, rfl⟩ : ∃ f, fl = f + 1 := ⟨fl - 1, by omega⟩
    have : u = nd := by omega
    subst this
    rw [f_X5_deliverRound_L4, if_pos (nI_le (Nat.le_refl _) (by omega))]
    exact ⟨thr, wz, tm, hp, gs, md, ct, xp, wn, row, rfl, fun q => rfl, hR.mono (by omega), by omega⟩
  | succ m ih =>
    intro u thr T0 B fl hp gs md ct xp wn wz tm row h1 h3 h4 hR
    obtain ⟨f, rfl⟩ : ∃ f, fl = f + 1 := ⟨fl - 1, by omega⟩
    rw [f_X5_deliverRound_L4, if_neg (nI_ge (by omega) (by omega)), nI_1]
    obtain ⟨thr1, wz1, tm1, hp1, gs1, md1, ct1, xp1, wn1, row1, l1, l2, l3, l4⟩ := round_in (re := re) (rh := rh) (ra := ra) (rf := rf) hN h2 hn hl hi hn4 (show u < nd by omega) nd 0 thr T0 B N hp gs md ct xp wn wz tm row (by omega) (by omega) (by omega) hR
    have e4 : nI 0 = 0 := rfl
    rw [e4] at l1
    rw [l1, Option.bind_some]
    dsimp only
    obtain ⟨thr', wz', tm', hp', gs', md', ct', xp', wn', row', i1, i2, i3, i4⟩ := ih (u + 1) thr1 T0 (B + 100 * nd) f hp1 gs1 md1 ct1 xp1 wn1 wz1 tm1 row1 (by omega) (by omega) (by omega) l3
    refine ⟨thr', wz', tm', hp', gs', md', ct', xp', wn', row', i1, fun q => ?_, i3.mono (by omega), by omega⟩
    have a1 := l2 (q + nd * m)
    have a2 := i2 q
    rw [show q + nd * (m + 1) = q + nd * m + nd by rw [Nat.mul_add]; omega]
    simp only [Nat.add_zero] at a1
    rw [a1]
    rw [show (nd * i + (u + 1)) * nd = (nd * i + u) * nd + nd by rw [show nd * i + (u + 1) = (nd * i + u) + 1 by omega, Nat.add_mul]; omega] at a2
    exact a2
theorem rounds_all {N nd life n : Nat} {re rh ra rf lt : Int32} {dl : ar} (hN : 1000 ≤ N) (h2 : 2 ≤ nd) (hn : nd ≤ 6) (hl : life ≤ 99) (hn4 : n ≤ 4) : ∀ (m i thr B fl q : Nat) (hp gs md ct xp wn : ar) (wz tm : Int32) (row : ar), i + m = n → m < fl → 0 < q → B + 3600 * m < 2147483648 → RK nd B dl lt hp gs md ct xp wn wz tm row → ∃ thr' wz' tm' hp' gs' md' ct' xp' wn' row', f_X11_rounds_L27 (nI nd) re rh ra (nI life) rf dl (nI n) N fl (nI thr) (nI i) wz tm hp gs md ct xp wn = some (nI thr', wz', tm', hp', gs', md', ct', xp', wn') ∧ f_X12_rounds_L19 (nI nd) re rh ra (nI life) rf (nI n) N (q + nd * nd * m) (nI thr) (nI (nd * i * nd)) row = some (nI thr', row') ∧ RK nd (B + 3600 * m) dl lt hp' gs' md' ct' xp' wn' wz' tm' row' := by
  intro m
  induction m with
  | zero =>
    intro i thr B fl q hp gs md ct xp wn wz tm row h1 h3 h4 h5 hR
    obtain ⟨f, rfl⟩ : ∃ f, fl = f + 1 := ⟨fl - 1, by omega⟩
    obtain ⟨q', rfl⟩ : ∃ q', q = q' + 1 := ⟨q - 1, by omega⟩
    have : i = n := by omega
    subst this
    rw [f_X11_rounds_L27, if_pos (nI_le (Nat.le_refl _) (by omega))]
    have hnn : i * nd * nd < 200 := by
      rcases (show nd = 2 ∨ nd = 3 ∨ nd = 4 ∨ nd = 5 ∨ nd = 6 by omega) with rfl | rfl | rfl | rfl | rfl <;> omega
    have e1 : nI i * nI nd * nI nd = nI (i * nd * nd) := by rw [pk_mul, pk_mul]
    refine ⟨thr, wz, tm, hp, gs, md, ct, xp, wn, row, rfl, ?_, hR.mono (by omega)⟩
    rw [Nat.mul_zero, Nat.add_zero, f_X12_rounds_L19, e1, if_pos (nI_le (by rw [Nat.mul_comm nd i]; exact Nat.le_refl _) (by rw [Nat.mul_comm nd i]; omega))]
  | succ m ih =>
    intro i thr B fl q hp gs md ct xp wn wz tm row h1 h3 h4 h5 hR
    obtain ⟨f, rfl⟩ : ∃ f, fl = f + 1 := ⟨fl - 1, by omega⟩
    rw [f_X11_rounds_L27, if_neg (nI_ge (by omega) (by omega)), nI_1]
    obtain ⟨thr1, wz1, tm1, hp1, gs1, md1, ct1, xp1, wn1, row1, l1, l2, l3, l4⟩ := round_out (re := re) (rh := rh) (ra := ra) (rf := rf) (i := i) hN h2 hn hl (show i < n by omega) hn4 nd 0 0 thr B N hp gs md ct xp wn wz tm row (by omega) (by omega) (by omega) hR
    have hdr : f_X5_deliverRound N (nI nd) re rh ra (nI life) rf dl hp gs md ct xp wn wz tm = some (nI thr1, wz1, tm1, hp1, gs1, md1, ct1, xp1, wn1) := by
      unfold f_X5_deliverRound
      have e4 : nI 0 = 0 := rfl
      rw [e4] at l1
      rw [l1]
      rfl
    rw [hdr, Option.bind_some]
    dsimp only
    rw [nI_add]
    obtain ⟨thr', wz', tm', hp', gs', md', ct', xp', wn', row', i1, i2, i3⟩ := ih (i + 1) (thr + thr1) (B + 600 * nd) f q hp1 gs1 md1 ct1 xp1 wn1 wz1 tm1 row1 (by omega) (by omega) h4 (by omega) l3
    refine ⟨thr', wz', tm', hp', gs', md', ct', xp', wn', row', i1, ?_, i3.mono (by omega)⟩
    have a1 := l2 (q + nd * nd * m)
    simp only [Nat.add_zero] at a1
    rw [show q + nd * nd * (m + 1) = q + nd * nd * m + nd * nd by rw [Nat.mul_add]; omega, a1]
    rw [show nd * (i + 1) * nd = (nd * i + nd) * nd by rw [Nat.mul_add, Nat.mul_one]] at i2
    exact i2
