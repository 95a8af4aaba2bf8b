/-! the second half of the calls -/
theorem why_K {nd : Nat} {dl row : ar} (hK : LK nd dl row) (h0 : 0 < nd) (hn : nd ≤ 6) (x1 x2 x3 : Int32) : ∃ r, f_X11_refusalOfGuess (nI nd) dl x1 x2 x3 = some r ∧ f_X12_whyNoGuess (nI nd) row x1 x2 x3 = some r ∧ (r = 0 → ∃ u d v : Nat, u < nd ∧ d < nd ∧ v < nd ∧ x1 = nI u ∧ x2 = nI d ∧ x3 = nI v) := by
  unfold f_X11_refusalOfGuess f_X12_whyNoGuess
  have hn2 : nd < 2147483648 := by omega
  simp only [isNodeR_N _ h0 hn2, isNodeC_N _ hn2, unlikeC_N hn2, Option.bind_some, b2i_d]
  by_cases h1 : 0 ≤ x1.toInt ∧ x1.toInt < nd
  · by_cases h2 : 0 ≤ x2.toInt ∧ x2.toInt < nd
    · by_cases h3 : 0 ≤ x3.toInt ∧ x3.toInt < nd
      · by_cases he : x1 = x2
        · rw [if_pos (fun q => q.2.2 he), if_neg (fun q => q h1), if_neg (fun q => q h2), if_neg (fun q => q h3), if_pos he]
          exact ⟨-1, rfl, rfl, fun q => absurd q (by decide)⟩
        · rw [if_neg (fun q => q ⟨h1, h2, he⟩), if_neg (fun q => q h3), if_neg (fun q => q h1), if_neg (fun q => q h2), if_neg (fun q => q h3), if_neg he]
          obtain ⟨u, hu, rfl⟩ := ndx h1
          obtain ⟨d, hd, rfl⟩ := ndx h2
          obtain ⟨v, hv, rfl⟩ := ndx h3
          rw [delayOf_N (show u < 6 by omega) (show v < 6 by omega), delayR_K hK (show u < 6 by omega) (show v < 6 by omega), Option.bind_some]
          by_cases hz : dl (6 * u + v) ≤ 0
          · rw [if_pos hz]
            exact ⟨-2, rfl, rfl, fun q => absurd q (by decide)⟩
          · rw [if_neg hz]
            exact ⟨0, rfl, rfl, fun _ => ⟨u, d, v, hu, hd, hv, rfl, rfl, rfl⟩⟩
      · refine ⟨-1, ?_, ?_, fun q => absurd q (by decide)⟩
        · by_cases hP : (0 ≤ x1.toInt ∧ x1.toInt < nd) ∧ (0 ≤ x2.toInt ∧ x2.toInt < nd) ∧ x1 ≠ x2
          · rw [if_neg (fun q => q hP), if_pos h3]
          · rw [if_pos hP]
        · rw [if_neg (fun q => q h1), if_neg (fun q => q h2), if_pos h3]
    · refine ⟨-1, ?_, ?_, fun q => absurd q (by decide)⟩
      · rw [if_pos (fun q => h2 q.2.1)]
      · rw [if_neg (fun q => q h1), if_pos h2]
  · refine ⟨-1, ?_, ?_, fun q => absurd q (by decide)⟩
    · rw [if_pos (fun q => h1 q.1)]
    · rw [if_pos h1]
theorem cnt_more (f : Nat → Bool) : ∀ m n k, (∀ i, k + m ≤ i → i < k + m + n → f i = false) → cntF f (m + n) k = cntF f m k := by
  intro m
  induction m with
  | zero =>
    intro n k h
    rw [Nat.zero_add]
    have : ¬ 0 < cntF f n k := by
      rw [cnt_pos]
      rintro ⟨i, a, b, c⟩
      rw [h i (by omega) (by omega)] at c
      cases c
    have e : cntF f 0 k = 0 := rfl
    omega
  | succ m ih =>
    intro n k h
    rw [show m + 1 + n = (m + n) + 1 by omega]
    unfold cntF
    rw [ih n (k + 1) (fun i a b => h i (by omega) (by omega))]
theorem nodeR_L {nd : Nat} {dl row : ar} {u : Nat} (hK : LK nd dl row) (hn : nd ≤ 6) (hu : u < 6) : ∀ (n v a : Nat), v ≤ nd → nd - v < n → f_X12_node_L24 (nI nd) row (nI u) n (nI a) (nI v) = some (nI (a + cntF (nbF dl u) (nd - v) v)) := by
  intro n
  induction n with
  | zero => intro v a h1 h2; omega
  | succ n ih =>
    intro v a h1 h2
    rw [f_X12_node_L24]
    by_cases hv : nd ≤ v
    · have : v = nd := by omega
      subst this
      rw [if_pos (Int32.le_refl _), Nat.sub_self]
      rfl
    · have ez : nI a + 0 = nI a := nI_add a 0
      rw [if_neg (show ¬ nI nd ≤ nI v from nI_ge (a := v) (b := nd) (by omega) (by omega)), delayR_K hK hu (by omega), Option.bind_some, nI_1, nI_1, ez]
      have hc : cntF (nbF dl u) (nd - v) v = (if nbF dl u v = true then 1 else 0) + cntF (nbF dl u) (nd - (v + 1)) (v + 1) := by
        rw [show nd - v = (nd - (v + 1)) + 1 by omega]
        rfl
      by_cases hf : 0 < (dl (6 * u + v)).toInt
      · rw [if_neg (show ¬ dl (6 * u + v) ≤ 0 from by rw [nle0]; exact fun q => q hf), ih (v + 1) (a + 1) (by omega) (by omega), hc, if_pos (show nbF dl u v = true from decide_eq_true hf)]
        congr 2; omega
      · rw [if_pos (show dl (6 * u + v) ≤ 0 from by rw [nle0]; exact hf), ih (v + 1) a (by omega) (by omega), hc, if_neg (show ¬ nbF dl u v = true from by unfold nbF; rw [decide_eq_false hf]; simp)]
        congr 2; omega
theorem nodeR_K {N nd : Nat} {dl row : ar} {u : Nat} (hK : LK nd dl row) (hn : nd ≤ 6) (hu : u < 6) (hN : 7 ≤ N) : f_X12_node_L24 (nI nd) row (nI u) N 0 0 = some (nI (cntF (nbF dl u) 6 0)) := by
  have h := nodeR_L hK hn hu N 0 0 (by omega) (by omega)
  have e4 : nI 0 = 0 := rfl
  rw [e4, Nat.sub_zero, Nat.zero_add] at h
  rw [h]
  have hm := cnt_more (nbF dl u) nd (6 - nd) 0 (fun i a b => by unfold nbF; rw [hK.2.2.2.2 u i hu (by omega) (Or.inr (by omega))]; rfl)
  rw [show nd + (6 - nd) = 6 by omega] at hm
  rw [hm]
theorem worst_L {N nd : Nat} {dl row : ar} {lt : Int32} (hK : LK nd dl row) (hN : 37 ≤ N) (hn : nd ≤ 6) {c : Nat} (hc : c = cntF (lf row) 36 0) (hlt : lt = nI c) : ∀ (m l f q : Nat) (fd mc mr sn : Int32) (sm far : ar), l + m = c → m < f → m < q → ((fd = -9 ∧ mr = -1) ∨ ∃ j s : Nat, j < 100 ∧ s < 2147483648 ∧ fd = nI j ∧ mc = nI s ∧ mr = nI s) → ∃ r sn' sm' far', f_X11_worst_L7 (nI nd) dl lt N f fd mc (nI l) sn sm = some (r, sn', sm') ∧ f_X12_worst_L13 (nI nd) row N (nI c) q fd mr (nI l) far = some (r, far') := by
  intro m
  have hc36 : c ≤ 36 := by rw [hc]; exact cnt_le _ _ _
  induction m with
  | zero =>
    intro l f q fd mc mr sn sm far h1 h2 h3 h4
    obtain ⟨f, rfl⟩ : ∃ g, f = g + 1 := ⟨f - 1, by omega⟩
    obtain ⟨q, rfl⟩ : ∃ g, q = g + 1 := ⟨q - 1, by omega⟩
    have : l = c := by omega
    subst this
    rw [f_X11_worst_L7, f_X12_worst_L13, hlt, if_pos (Int32.le_refl _), if_pos (Int32.le_refl _)]
    exact ⟨_, _, _, _, rfl, rfl⟩
  | succ m ih =>
    intro l f q fd mc mr sn sm far h1 h2 h3 h4
    obtain ⟨f, rfl⟩ : ∃ g, f = g + 1 := ⟨f - 1, by omega⟩
    obtain ⟨q, rfl⟩ : ∃ g, q = g + 1 := ⟨q - 1, by omega⟩
    obtain ⟨s, sm', far', hs, e1, e2⟩ := hurt_K (N := N) hK (by omega) hn (w := lnk row (nI l)) lnk_lt sm far
    rw [f_X11_worst_L7, f_X12_worst_L13]
    rw [if_neg (show ¬ lt ≤ nI l from by rw [hlt]; exact nI_ge (a := l) (b := c) (by omega) (by omega)), if_neg (show ¬ nI c ≤ nI l from nI_ge (a := l) (b := c) (by omega) (by omega)), pairOfC_K hK hN (by rw [hlt, hc]), pairOfR_K hN, Option.bind_some, Option.bind_some, e1, e2, Option.bind_some, Option.bind_some]
    dsimp only
    rw [nI_1]
    rcases h4 with ⟨rfl, rfl⟩ | ⟨j, t, hj, ht, rfl, rfl, rfl⟩
    · have hneg : ¬ nI s ≤ -1 := by
        rw [Int32.le_iff_toInt_le, nI_toInt hs]
        have : (-1 : Int32).toInt = -1 := rfl
        omega
      rw [if_pos (show (-9 : Int32) = -9 from rfl), if_neg hneg, Option.bind_some, if_neg hneg]
      exact ih (l + 1) f q _ _ _ _ _ _ (by omega) (by omega) (by omega) (Or.inr ⟨l, s, by omega, hs, rfl, rfl, rfl⟩)
    · have hj9 : ¬ nI j = -9 := by
        rw [show (nI j = -9) = False from negN (a := 9) (by omega) (by omega) j (by omega)]
        exact id
      rw [if_neg hj9]
      by_cases hle : nI s ≤ nI t
      · rw [if_pos hle, if_pos hle, Option.bind_some, if_pos hle]
        exact ih (l + 1) f q _ _ _ _ _ _ (by omega) (by omega) (by omega) (Or.inr ⟨j, t, hj, ht, rfl, rfl, rfl⟩)
      · rw [if_neg hle, if_neg hle, Option.bind_some, if_neg hle]
        exact ih (l + 1) f q _ _ _ _ _ _ (by omega) (by omega) (by omega) (Or.inr ⟨l, s, by omega, hs, rfl, rfl, rfl⟩)
theorem agree_0 {nd k : Nat} {mf mt ms far sm : ar} (hF : FM nd 999 sm far) (hn : nd ≤ 6) (hk : k ≤ 6) (hs : ∀ j, j < k → ∃ u d : Nat, u < nd ∧ d < nd ∧ mf j = nI u ∧ mt j = nI d) : ∀ (m j q : Nat), j + m = k → m < q → f_X12_unseen_L29 (nI k) mf mt ms far q 0 (nI j) = some 0 := by
  intro m
  induction m with
  | zero =>
    intro j q h1 h2
    obtain ⟨q, rfl⟩ : ∃ g, q = g + 1 := ⟨q - 1, by omega⟩
    have : j = k := by omega
    subst this
    rw [f_X12_unseen_L29, if_pos (Int32.le_refl _)]
  | succ m ih =>
    intro j q h1 h2
    obtain ⟨q, rfl⟩ : ∃ g, q = g + 1 := ⟨q - 1, by omega⟩
    obtain ⟨u, d, hu, hd, a1, a2⟩ := hs j (by omega)
    obtain ⟨r, b1, b2, -⟩ := between_K hF hn hu hd
    rw [f_X12_unseen_L29, if_neg (show ¬ nI k ≤ nI j from nI_ge (a := j) (b := k) (by omega) (by omega))]
    simp (disch := omega) only [ckN, clN]
    rw [a1, a2, b2, Option.bind_some, if_pos trivial, nI_1]
    exact ih (j + 1) q (by omega) (by omega)
theorem agree_L {nd k : Nat} {sf sg sw mf mt ms far sm : ar} (hF : FM nd 999 sm far) (hn : nd ≤ 6) (hk : k ≤ 6) (hs : ∀ j, j < k → ∃ u d : Nat, u < nd ∧ d < nd ∧ sf j = nI u ∧ mf j = nI u ∧ sg j = nI d ∧ mt j = nI d ∧ sw j = ms j) : ∀ (m j f q : Nat), j + m = k → m < f → m < q → (f_X8_agree_L2 sf sg sw (nI k) sm f (nI j) = some (.inl false) ∧ f_X12_unseen_L29 (nI k) mf mt ms far q 1 (nI j) = some 0) ∨ (f_X8_agree_L2 sf sg sw (nI k) sm f (nI j) = some (.inr ()) ∧ f_X12_unseen_L29 (nI k) mf mt ms far q 1 (nI j) = some 1) := by
  intro m
  induction m with
  | zero =>
    intro j f q h1 h2 h3
    obtain ⟨f, rfl⟩ : ∃ g, f = g + 1 := ⟨f - 1, by omega⟩
    obtain ⟨q, rfl⟩ : ∃ g, q = g + 1 := ⟨q - 1, by omega⟩
    have : j = k := by omega
    subst this
    rw [f_X8_agree_L2, f_X12_unseen_L29, if_pos (Int32.le_refl _), if_pos (Int32.le_refl _)]
    exact Or.inr ⟨rfl, rfl⟩
  | succ m ih =>
    intro j f q h1 h2 h3
    obtain ⟨f, rfl⟩ : ∃ g, f = g + 1 := ⟨f - 1, by omega⟩
    obtain ⟨q, rfl⟩ : ∃ g, q = g + 1 := ⟨q - 1, by omega⟩
    obtain ⟨u, d, hu, hd, a1, a2, a3, a4, a5⟩ := hs j (by omega)
    obtain ⟨r, b1, b2, -⟩ := between_K hF hn hu hd
    have hge : ¬ nI k ≤ nI j := nI_ge (a := j) (b := k) (by omega) (by omega)
    rw [f_X8_agree_L2, f_X12_unseen_L29, if_neg hge, if_neg hge]
    simp (disch := omega) only [ckN, clN]
    rw [a1, a2, a3, a4, a5, b1, b2, Option.bind_some, Option.bind_some, if_neg (show ¬ (1 : Int32) = 0 from by decide), nI_1]
    have h0 := agree_0 (ms := ms) hF hn hk (fun j hj => by obtain ⟨u, d, c1, c2, c3, c4, c5, c6, c7⟩ := hs j hj; exact ⟨u, d, c1, c2, c4, c6⟩) m (j + 1) q (by omega) (by omega)
    by_cases h9 : r = -9
    · rw [if_pos h9, Option.bind_some, Option.bind_some]
      by_cases hq : (0 : Int32) = ms j
      · rw [if_pos hq, if_pos hq.symm]
        exact ih (j + 1) f q (by omega) (by omega) (by omega)
      · rw [if_neg hq, if_neg (fun e => hq e.symm)]
        exact Or.inl ⟨rfl, h0⟩
    · rw [if_neg h9, Option.bind_some, Option.bind_some]
      by_cases hq : r = ms j
      · rw [if_pos hq, if_pos hq.symm]
        exact ih (j + 1) f q (by omega) (by omega) (by omega)
      · rw [if_neg hq, if_neg (fun e => hq e.symm)]
        exact Or.inl ⟨rfl, h0⟩
theorem unseen_L {N nd : Nat} {dl row : ar} {lt : Int32} (hK : LK nd dl row) (hN : 37 ≤ N) (hn : nd ≤ 6) {c k : Nat} {sf sg sw mf mt ms : ar} (hk : k ≤ 6) (hs : ∀ j, j < k → ∃ u d : Nat, u < nd ∧ d < nd ∧ sf j = nI u ∧ mf j = nI u ∧ sg j = nI d ∧ mt j = nI d ∧ sw j = ms j) (hc : c = cntF (lf row) 36 0) (hlt : lt = nI c) : ∀ (m l f q : Nat) (x sn : Int32) (sm far : ar), l + m = c → m < f → m < q → ∃ r sn' sm' far', f_X11_unseen_L4 (nI nd) dl lt sf sg sw (nI k) N f x (nI l) sn sm = some (r, sn', sm') ∧ f_X12_unseen_L9 (nI nd) row (nI k) mf mt ms N (nI c) q x (nI l) far = some (r, far') := by
  intro m
  have hc36 : c ≤ 36 := by rw [hc]; exact cnt_le _ _ _
  induction m with
  | zero =>
    intro l f q x sn sm far h1 h2 h3
    obtain ⟨f, rfl⟩ : ∃ g, f = g + 1 := ⟨f - 1, by omega⟩
    obtain ⟨q, rfl⟩ : ∃ g, q = g + 1 := ⟨q - 1, by omega⟩
    have : l = c := by omega
    subst this
    rw [f_X11_unseen_L4, f_X12_unseen_L9, hlt, if_pos (Int32.le_refl _), if_pos (Int32.le_refl _)]
    exact ⟨_, _, _, _, rfl, rfl⟩
  | succ m ih =>
    intro l f q x sn sm far h1 h2 h3
    obtain ⟨f, rfl⟩ : ∃ g, f = g + 1 := ⟨f - 1, by omega⟩
    obtain ⟨q, rfl⟩ : ∃ g, q = g + 1 := ⟨q - 1, by omega⟩
    obtain ⟨sm', far', e1, e2, e3⟩ := measure_K (N := N) hK (by omega) hn (w := lnk row (nI l)) lnk_lt sm far
    rw [f_X11_unseen_L4, f_X12_unseen_L9]
    rw [if_neg (show ¬ lt ≤ nI l from by rw [hlt]; exact nI_ge (a := l) (b := c) (by omega) (by omega)), if_neg (show ¬ nI c ≤ nI l from nI_ge (a := l) (b := c) (by omega) (by omega)), pairOfC_K hK hN (by rw [hlt, hc]), pairOfR_K hN, Option.bind_some, Option.bind_some, e1, e2, Option.bind_some, Option.bind_some, nI_1]
    have e0 : nI 0 = 0 := rfl
    have hz : x ||| 0 = x := by simp
    unfold f_X8_agree
    rcases agree_L (sw := sw) (ms := ms) e3 hn hk hs k 0 N N (by omega) (by omega) (by omega) with ⟨g1, g2⟩ | ⟨g1, g2⟩
    · rw [e0] at g1 g2
      rw [g1, g2, Option.bind_some, if_pos (show (0 : Int32) = 0 from rfl), hz]
      rw [show lb (some (.inl false : Bool ⊕ Unit)) (fun s2 => some true) = some false from rfl, Option.bind_some, if_pos (show b2i false = 0 from rfl)]
      exact ih (l + 1) f q _ _ _ _ (by omega) (by omega) (by omega)
    · rw [e0] at g1 g2
      rw [g1, g2, Option.bind_some, if_neg (show ¬ (1 : Int32) = 0 from by decide)]
      rw [show lb (some (.inr () : Bool ⊕ Unit)) (fun s2 => some true) = some true from rfl, Option.bind_some, if_neg (show ¬ b2i true = 0 from by decide)]
      exact ih (l + 1) f q _ _ _ _ (by omega) (by omega) (by omega)
theorem op_guess {N i : Nat} {tx : ar} {tn : Int32} {rn : Int32} {re : Int32} {rh : Int32} {ra : Int32} {rl : Int32} {rf : Int32} {dl : ar} {lt : Int32} {hp : ar} {gs : ar} {md : ar} {ct : ar} {xp : ar} {wn : ar} {wz : Int32} {tm : Int32} {la : Int32} {ps : Int32} {rv : Nat → Nat → ar} {ik : ar} {iv : Nat → Nat → ar} {sf : ar} {sg : ar} {sw : ar} {sz : Int32} {m_nodes : Int32} {m_every : Int32} {m_halves : Int32} {m_age : Int32} {m_life : Int32} {m_first : Int32} {m_now : ar} {m_undoMany : Int32} {m_undoAt : Int32} {m_undos : ar} {m_isKept : ar} {m_kept : ar} {m_letterMany : Int32} {m_text : ar} {m_seenMany : Int32} {m_seenFrom : ar} {m_seenTo : ar} {m_seen : ar} (hN : 1000 ≤ N) (hi : i < 512) (h : Rel i tx tn rn re rh ra rl rf dl lt hp gs md ct xp wn wz tm la ps rv ik iv sf sg sw sz m_nodes m_every m_halves m_age m_life m_first m_now m_undoMany m_undoAt m_undos m_isKept m_kept m_letterMany m_text m_seenMany m_seenFrom m_seenTo m_seen) (x1 x2 x3 : Int32) : ∃ (r : Int32), f_X11_guess rn ra rf dl gs md tm x1 x2 x3 = some r ∧ f_X12_guess m_nodes m_age m_first m_now x1 x2 x3 = some r ∧ Rel (i + 1) tx tn rn re rh ra rl rf dl lt hp gs md ct xp wn wz tm la ps rv ik iv sf sg sw sz m_nodes m_every m_halves m_age m_life m_first m_now m_undoMany m_undoAt m_undos m_isKept m_kept m_letterMany m_text m_seenMany m_seenFrom m_seenTo m_seen := by
  obtain ⟨nd, life, ⟨n2, n6, rfl, rfl⟩, ⟨rfl, rfl, rfl, rfl⟩, ⟨hl, rfl, rfl⟩, hK, hU, hI, hT, hS⟩ := h
  unfold f_X11_guess f_X12_guess
  obtain ⟨r, a1, a2, a3⟩ := why_K hK.1 (by omega) n6 x1 x2 x3
  rw [a1, a2, Option.bind_some, Option.bind_some]
  by_cases hr : r = 0
  · obtain ⟨u, d, v, hu, hd, hv, rfl, rfl, rfl⟩ := a3 hr
    rw [if_pos hr, if_pos hr, guessByC_K (show u < 6 by omega) (show d < 6 by omega) (show v < 6 by omega), guessR_K hK.2.2.2.1 hK.2.2.2.2.2.1.1 (show u < 6 by omega) (show d < 6 by omega) (show v < 6 by omega)]
    exact ⟨_, rfl, rfl, mkRel n2 n6 hl hK hU hI hT hS⟩
  · rw [if_neg hr, if_neg hr]
    exact ⟨_, rfl, rfl, mkRel n2 n6 hl hK hU hI hT hS⟩
theorem op_mended {N i : Nat} {tx : ar} {tn : Int32} {rn : Int32} {re : Int32} {rh : Int32} {ra : Int32} {rl : Int32} {rf : Int32} {dl : ar} {lt : Int32} {hp : ar} {gs : ar} {md : ar} {ct : ar} {xp : ar} {wn : ar} {wz : Int32} {tm : Int32} {la : Int32} {ps : Int32} {rv : Nat → Nat → ar} {ik : ar} {iv : Nat → Nat → ar} {sf : ar} {sg : ar} {sw : ar} {sz : Int32} {m_nodes : Int32} {m_every : Int32} {m_halves : Int32} {m_age : Int32} {m_life : Int32} {m_first : Int32} {m_now : ar} {m_undoMany : Int32} {m_undoAt : Int32} {m_undos : ar} {m_isKept : ar} {m_kept : ar} {m_letterMany : Int32} {m_text : ar} {m_seenMany : Int32} {m_seenFrom : ar} {m_seenTo : ar} {m_seen : ar} (hN : 1000 ≤ N) (hi : i < 512) (h : Rel i tx tn rn re rh ra rl rf dl lt hp gs md ct xp wn wz tm la ps rv ik iv sf sg sw sz m_nodes m_every m_halves m_age m_life m_first m_now m_undoMany m_undoAt m_undos m_isKept m_kept m_letterMany m_text m_seenMany m_seenFrom m_seenTo m_seen) (x1 x2 x3 : Int32) : ∃ (r : Int32), f_X11_mended rn dl md x1 x2 x3 = some r ∧ f_X12_mended m_nodes m_now x1 x2 x3 = some r ∧ Rel (i + 1) tx tn rn re rh ra rl rf dl lt hp gs md ct xp wn wz tm la ps rv ik iv sf sg sw sz m_nodes m_every m_halves m_age m_life m_first m_now m_undoMany m_undoAt m_undos m_isKept m_kept m_letterMany m_text m_seenMany m_seenFrom m_seenTo m_seen := by
  obtain ⟨nd, life, ⟨n2, n6, rfl, rfl⟩, ⟨rfl, rfl, rfl, rfl⟩, ⟨hl, rfl, rfl⟩, hK, hU, hI, hT, hS⟩ := h
  unfold f_X11_mended f_X12_mended
  obtain ⟨r, a1, a2, a3⟩ := why_K hK.1 (by omega) n6 x1 x2 x3
  rw [a1, a2, Option.bind_some, Option.bind_some]
  by_cases hr : r = 0
  · obtain ⟨u, d, v, hu, hd, hv, rfl, rfl, rfl⟩ := a3 hr
    have h406 : (406 : Int32) + nI (36 * u + 6 * d + v) = nI (406 + (36 * u + 6 * d + v)) := nI_add 406 _
    rw [if_pos hr, if_pos hr, guessCell_N, guessAt_N, Option.bind_some, Option.bind_some, h406]
    simp (disch := omega) only [ckN, clN]
    rcases hK.2.2.2.1 (36 * u + 6 * d + v) (by omega) with ⟨g1, g2⟩ | ⟨g1, g2, -⟩
    · rw [g1, g2, if_pos (show (0 : Int32) = 0 from rfl), if_neg (show ¬ (0 : Int32) ≤ -1 from by decide)]
      exact ⟨_, rfl, rfl, mkRel n2 n6 hl hK hU hI hT hS⟩
    · have hnz : ¬ md (36 * u + 6 * d + v) = 0 := fun e => by rw [e, i0] at g2; omega
      have hge : (0 : Int32) ≤ m_now (406 + (36 * u + 6 * d + v)) := by rw [Int32.le_iff_toInt_le, i0, ← g1]; omega
      rw [if_neg hnz, if_pos hge, ← g1]
      exact ⟨_, rfl, rfl, mkRel n2 n6 hl hK hU hI hT hS⟩
  · rw [if_neg hr, if_neg hr]
    exact ⟨_, rfl, rfl, mkRel n2 n6 hl hK hU hI hT hS⟩
theorem op_best {N i : Nat} {tx : ar} {tn : Int32} {rn : Int32} {re : Int32} {rh : Int32} {ra : Int32} {rl : Int32} {rf : Int32} {dl : ar} {lt : Int32} {hp : ar} {gs : ar} {md : ar} {ct : ar} {xp : ar} {wn : ar} {wz : Int32} {tm : Int32} {la : Int32} {ps : Int32} {rv : Nat → Nat → ar} {ik : ar} {iv : Nat → Nat → ar} {sf : ar} {sg : ar} {sw : ar} {sz : Int32} {m_nodes : Int32} {m_every : Int32} {m_halves : Int32} {m_age : Int32} {m_life : Int32} {m_first : Int32} {m_now : ar} {m_undoMany : Int32} {m_undoAt : Int32} {m_undos : ar} {m_isKept : ar} {m_kept : ar} {m_letterMany : Int32} {m_text : ar} {m_seenMany : Int32} {m_seenFrom : ar} {m_seenTo : ar} {m_seen : ar} (hN : 1000 ≤ N) (hi : i < 512) (h : Rel i tx tn rn re rh ra rl rf dl lt hp gs md ct xp wn wz tm la ps rv ik iv sf sg sw sz m_nodes m_every m_halves m_age m_life m_first m_now m_undoMany m_undoAt m_undos m_isKept m_kept m_letterMany m_text m_seenMany m_seenFrom m_seenTo m_seen) (x1 x2 : Int32) : ∃ (r : Int32), f_X11_best N rn ra rf dl gs md tm x1 x2 = some r ∧ f_X12_best N m_nodes m_age m_first m_now x1 x2 = some r ∧ Rel (i + 1) tx tn rn re rh ra rl rf dl lt hp gs md ct xp wn wz tm la ps rv ik iv sf sg sw sz m_nodes m_every m_halves m_age m_life m_first m_now m_undoMany m_undoAt m_undos m_isKept m_kept m_letterMany m_text m_seenMany m_seenFrom m_seenTo m_seen := by
  obtain ⟨nd, life, ⟨n2, n6, rfl, rfl⟩, ⟨rfl, rfl, rfl, rfl⟩, ⟨hl, rfl, rfl⟩, hK, hU, hI, hT, hS⟩ := h
  unfold f_X11_best f_X12_best
  rw [unC (by omega), unR (by omega) (by omega)]
  by_cases hP : (0 ≤ x1.toInt ∧ x1.toInt < nd) ∧ (0 ≤ x2.toInt ∧ x2.toInt < nd) ∧ x1 ≠ x2
  · obtain ⟨u, hu, rfl⟩ := ndx hP.1
    obtain ⟨g, hg, rfl⟩ := ndx hP.2.1
    rw [if_pos hP, if_pos hP, bestC_K (by omega) n6 (by omega) (by omega), bestR_K hK.1 hK.2.2.2.1 hK.2.2.2.2.2.1.1 (by omega) (by omega) n6 (by omega) (by omega)]
    exact ⟨_, rfl, rfl, mkRel n2 n6 hl hK hU hI hT hS⟩
  · rw [if_neg hP, if_neg hP]
    exact ⟨_, rfl, rfl, mkRel n2 n6 hl hK hU hI hT hS⟩
theorem op_node {N i : Nat} {tx : ar} {tn : Int32} {rn : Int32} {re : Int32} {rh : Int32} {ra : Int32} {rl : Int32} {rf : Int32} {dl : ar} {lt : Int32} {hp : ar} {gs : ar} {md : ar} {ct : ar} {xp : ar} {wn : ar} {wz : Int32} {tm : Int32} {la : Int32} {ps : Int32} {rv : Nat → Nat → ar} {ik : ar} {iv : Nat → Nat → ar} {sf : ar} {sg : ar} {sw : ar} {sz : Int32} {m_nodes : Int32} {m_every : Int32} {m_halves : Int32} {m_age : Int32} {m_life : Int32} {m_first : Int32} {m_now : ar} {m_undoMany : Int32} {m_undoAt : Int32} {m_undos : ar} {m_isKept : ar} {m_kept : ar} {m_letterMany : Int32} {m_text : ar} {m_seenMany : Int32} {m_seenFrom : ar} {m_seenTo : ar} {m_seen : ar} (hN : 1000 ≤ N) (hi : i < 512) (h : Rel i tx tn rn re rh ra rl rf dl lt hp gs md ct xp wn wz tm la ps rv ik iv sf sg sw sz m_nodes m_every m_halves m_age m_life m_first m_now m_undoMany m_undoAt m_undos m_isKept m_kept m_letterMany m_text m_seenMany m_seenFrom m_seenTo m_seen) (x1 x2 : Int32) : ∃ (r : Int32), f_X11_node N rn dl ct xp x1 x2 = some r ∧ f_X12_node N m_nodes m_now x1 x2 = some r ∧ Rel (i + 1) tx tn rn re rh ra rl rf dl lt hp gs md ct xp wn wz tm la ps rv ik iv sf sg sw sz m_nodes m_every m_halves m_age m_life m_first m_now m_undoMany m_undoAt m_undos m_isKept m_kept m_letterMany m_text m_seenMany m_seenFrom m_seenTo m_seen := by
  obtain ⟨nd, life, ⟨n2, n6, rfl, rfl⟩, ⟨rfl, rfl, rfl, rfl⟩, ⟨hl, rfl, rfl⟩, hK, hU, hI, hT, hS⟩ := h
  unfold f_X11_node f_X12_node
  rw [ndC (by omega), ndR (by omega) (by omega)]
  by_cases hP : 0 ≤ x1.toInt ∧ x1.toInt < nd
  · obtain ⟨u, hu, rfl⟩ := ndx hP
    have eI := inR (α := Int32) x2 0 2 (by omega) (by omega)
    have q0 : nI 0 = 0 := rfl
    have q2 : nI 2 = 2 := rfl
    have h106 : (106 : Int32) + nI u = nI (106 + u) := nI_add 106 _
    have h112 : (112 : Int32) + nI u = nI (112 + u) := nI_add 112 _
    rw [q0, q2] at eI
    rw [if_pos hP, if_pos hP, eI, nodeR_K hK.1 n6 (show u < 6 by omega) (by omega), Option.bind_some, nbC_K (show u < 6 by omega) (by omega), Option.bind_some, h106, h112]
    simp (disch := omega) only [ckN, clN]
    obtain ⟨hct, hxp⟩ := hK.2.2.2.2.1 u (by omega)
    by_cases h0 : x2 = 0
    · subst h0
      rw [if_pos (show (0 : Int32) = 0 from rfl), if_pos (show ((0 : Nat) : Int) ≤ (0 : Int32).toInt ∧ (0 : Int32).toInt ≤ ((2 : Nat) : Int) from by decide), if_pos (show (0 : Int32) = 0 from rfl), hct]
      exact ⟨_, rfl, rfl, mkRel n2 n6 hl hK hU hI hT hS⟩
    · by_cases h1 : x2 = 1
      · subst h1
        rw [if_neg h0, if_pos (show (1 : Int32) = 1 from rfl), if_pos (show ((0 : Nat) : Int) ≤ (1 : Int32).toInt ∧ (1 : Int32).toInt ≤ ((2 : Nat) : Int) from by decide), if_neg h0, if_pos (show (1 : Int32) = 1 from rfl), hxp]
        exact ⟨_, rfl, rfl, mkRel n2 n6 hl hK hU hI hT hS⟩
      · by_cases h2 : x2 = 2
        · subst h2
          rw [if_neg h0, if_neg h1, if_pos (show (2 : Int32) = 2 from rfl), if_pos (show ((0 : Nat) : Int) ≤ (2 : Int32).toInt ∧ (2 : Int32).toInt ≤ ((2 : Nat) : Int) from by decide), if_neg h0, if_neg h1]
          exact ⟨_, rfl, rfl, mkRel n2 n6 hl hK hU hI hT hS⟩
        · have hno : ¬ (((0 : Nat) : Int) ≤ x2.toInt ∧ x2.toInt ≤ ((2 : Nat) : Int)) := by
            intro q
            have n0 := ne_ti (z := 0) h0 rfl
            have n1 := ne_ti (z := 1) h1 rfl
            have n2 := ne_ti (z := 2) h2 rfl
            omega
          rw [if_neg h0, if_neg h1, if_neg h2, if_neg hno]
          exact ⟨_, rfl, rfl, mkRel n2 n6 hl hK hU hI hT hS⟩
  · rw [if_neg hP, if_neg hP]
    exact ⟨_, rfl, rfl, mkRel n2 n6 hl hK hU hI hT hS⟩
theorem op_used {N i : Nat} {tx : ar} {tn : Int32} {rn : Int32} {re : Int32} {rh : Int32} {ra : Int32} {rl : Int32} {rf : Int32} {dl : ar} {lt : Int32} {hp : ar} {gs : ar} {md : ar} {ct : ar} {xp : ar} {wn : ar} {wz : Int32} {tm : Int32} {la : Int32} {ps : Int32} {rv : Nat → Nat → ar} {ik : ar} {iv : Nat → Nat → ar} {sf : ar} {sg : ar} {sw : ar} {sz : Int32} {m_nodes : Int32} {m_every : Int32} {m_halves : Int32} {m_age : Int32} {m_life : Int32} {m_first : Int32} {m_now : ar} {m_undoMany : Int32} {m_undoAt : Int32} {m_undos : ar} {m_isKept : ar} {m_kept : ar} {m_letterMany : Int32} {m_text : ar} {m_seenMany : Int32} {m_seenFrom : ar} {m_seenTo : ar} {m_seen : ar} (hN : 1000 ≤ N) (hi : i < 512) (h : Rel i tx tn rn re rh ra rl rf dl lt hp gs md ct xp wn wz tm la ps rv ik iv sf sg sw sz m_nodes m_every m_halves m_age m_life m_first m_now m_undoMany m_undoAt m_undos m_isKept m_kept m_letterMany m_text m_seenMany m_seenFrom m_seenTo m_seen) (x1 : Int32) : ∃ (r : Int32), f_X11_used N dl lt hp x1 = some r ∧ f_X12_used N m_now x1 = some r ∧ Rel (i + 1) tx tn rn re rh ra rl rf dl lt hp gs md ct xp wn wz tm la ps rv ik iv sf sg sw sz m_nodes m_every m_halves m_age m_life m_first m_now m_undoMany m_undoAt m_undos m_isKept m_kept m_letterMany m_text m_seenMany m_seenFrom m_seenTo m_seen := by
  obtain ⟨nd, life, ⟨n2, n6, rfl, rfl⟩, ⟨rfl, rfl, rfl, rfl⟩, ⟨hl, rfl, rfl⟩, hK, hU, hI, hT, hS⟩ := h
  have hpC := pairOfC_K (N := N) hK.1 (by omega) hK.2.1.1 x1
  have hpR := pairOfR_K (row := m_now) (N := N) (by omega) x1
  have e1 := encB_1 (w := lnk m_now x1) lnk_lt
  have e9 := enc_91 (w := lnk m_now x1) lnk_lt
  unfold f_X11_used f_X12_used
  rw [hpC, hpR, Option.bind_some, Option.bind_some]
  cases hw : lnk m_now x1 with
  | none =>
    rw [if_pos (show encB none = -1 from rfl), if_pos (show enc none = -9 from rfl)]
    exact ⟨_, rfl, rfl, mkRel n2 n6 hl hK hU hI hT hS⟩
  | some k =>
    obtain ⟨k1, k2⟩ := lnk_some hw
    obtain ⟨p1, p2, p3, p4, p5, p6⟩ := hK.1.pair k1 k2
    rw [if_neg (show ¬ encB (some k) = -1 from ng1 k1), if_neg (show ¬ enc (some k) = -9 from ng9 k1)]
    have hb : encB (some k) = nI k := rfl
    have he : enc (some k) = nI k := rfl
    have h154 : (154 : Int32) + nI k = nI (154 + k) := nI_add 154 k
    rw [hb, he, h154]
    simp (disch := omega) only [ckN, clN]
    have := hK.2.2.1 (k / 6) (k % 6) p1 p2
    rw [← p3] at this
    rw [this]
    exact ⟨_, rfl, rfl, mkRel n2 n6 hl hK hU hI hT hS⟩
theorem op_way {N i : Nat} {tx : ar} {tn : Int32} {rn : Int32} {re : Int32} {rh : Int32} {ra : Int32} {rl : Int32} {rf : Int32} {dl : ar} {lt : Int32} {hp : ar} {gs : ar} {md : ar} {ct : ar} {xp : ar} {wn : ar} {wz : Int32} {tm : Int32} {la : Int32} {ps : Int32} {rv : Nat → Nat → ar} {ik : ar} {iv : Nat → Nat → ar} {sf : ar} {sg : ar} {sw : ar} {sz : Int32} {m_nodes : Int32} {m_every : Int32} {m_halves : Int32} {m_age : Int32} {m_life : Int32} {m_first : Int32} {m_now : ar} {m_undoMany : Int32} {m_undoAt : Int32} {m_undos : ar} {m_isKept : ar} {m_kept : ar} {m_letterMany : Int32} {m_text : ar} {m_seenMany : Int32} {m_seenFrom : ar} {m_seenTo : ar} {m_seen : ar} (hN : 1000 ≤ N) (hi : i < 512) (h : Rel i tx tn rn re rh ra rl rf dl lt hp gs md ct xp wn wz tm la ps rv ik iv sf sg sw sz m_nodes m_every m_halves m_age m_life m_first m_now m_undoMany m_undoAt m_undos m_isKept m_kept m_letterMany m_text m_seenMany m_seenFrom m_seenTo m_seen) (x1 : Int32) : ∃ (r : Int32), f_X11_way wn wz x1 = some r ∧ f_X12_way m_now x1 = some r ∧ Rel (i + 1) tx tn rn re rh ra rl rf dl lt hp gs md ct xp wn wz tm la ps rv ik iv sf sg sw sz m_nodes m_every m_halves m_age m_life m_first m_now m_undoMany m_undoAt m_undos m_isKept m_kept m_letterMany m_text m_seenMany m_seenFrom m_seenTo m_seen := by
  obtain ⟨nd, life, ⟨n2, n6, rfl, rfl⟩, ⟨rfl, rfl, rfl, rfl⟩, ⟨hl, rfl, rfl⟩, hK, hU, hI, hT, hS⟩ := h
  unfold f_X11_way f_X12_way
  have hWY := hK.2.2.2.2.2.2
  have e1 : (1 : Int32) = nI 1 := rfl
  have hck : ∀ (A : Option Int32), ck (inb 1 622) A = A := fun A => ckN (a := 1) (n := 622) (by omega) (by omega)
  have hcl : (1 : Int32).toNatClampNeg = 1 := clN (a := 1) (by omega)
  rw [hck, hcl]
  by_cases hx : (-1 : Int32) ≤ x1
  · rw [if_pos hx, if_pos hx]
    rcases hWY with ⟨g1, g2⟩ | ⟨h, g1, g2, g3, g4⟩
    · subst g1
      rw [g2, if_pos (show (-1 : Int32) < 0 from by decide), if_pos (show (0 : Int32) = 0 from rfl)]
      refine ⟨-9, ?_, rfl, mkRel n2 n6 hl hK hU hI hT hS⟩
      split <;> rfl
    · subst g2
      rw [g3, if_neg (show ¬ nI h < 0 from by rw [nltz h (by omega)]; exact id)]
      have hz : ¬ nI (h + 1) = 0 := by exact nI_ne0 (by omega) (by omega)
      by_cases hm : x1 = -1
      · have hx1 : ¬ nI (h + 1) ≤ x1 := by
          rw [hm, Int32.le_iff_toInt_le, nI_toInt (by omega)]
          have : (-1 : Int32).toInt = -1 := rfl
          omega
        have hx2 : x1 ≤ nI h := by
          rw [hm, Int32.le_iff_toInt_le, nI_toInt (by omega)]
          have : (-1 : Int32).toInt = -1 := rfl
          omega
        have hx3 : ¬ (0 : Int32) ≤ x1 := by rw [hm]; decide
        rw [if_neg hx1, if_neg hz, if_pos hm, if_pos hx2, if_neg hx3, nI_pred]
        exact ⟨_, rfl, rfl, mkRel n2 n6 hl hK hU hI hT hS⟩
      · have hx0 : 0 ≤ x1.toInt := by
          rw [Int32.le_iff_toInt_le] at hx
          have w : (-1 : Int32).toInt = -1 := rfl
          have := ne_ti (z := -1) hm rfl
          omega
        have hlt := x1.toInt_lt
        have hk := idxN hx0
        have hk2 : x1.toInt.toNat < 2147483648 := by omega
        generalize x1.toInt.toNat = k at hk hk2
        subst hk
        have h00 : (0 : Int32) ≤ nI k := by
          rw [Int32.le_iff_toInt_le, i0, nI_toInt hk2]; omega
        have h2k : (2 : Int32) + nI k = nI (2 + k) := nI_add 2 k
        by_cases hkh : k ≤ h
        · have f1 : ¬ nI (h + 1) ≤ nI k := by exact nI_ge (a := k) (b := h + 1) (by omega) (by omega)
          have f2 : nI k ≤ nI h := by rw [leN hk2 (by omega)]; exact hkh
          rw [if_neg f1, if_neg hz, if_neg hm, if_pos f2, if_pos h00, h2k]
          simp (disch := omega) only [ckN, clN]
          rw [g4 k hkh]
          exact ⟨_, rfl, rfl, mkRel n2 n6 hl hK hU hI hT hS⟩
        · have f1 : nI (h + 1) ≤ nI k := by rw [leN (by omega) hk2]; omega
          have f2 : ¬ nI k ≤ nI h := by rw [leN hk2 (by omega)]; exact hkh
          rw [if_pos f1, if_neg f2]
          exact ⟨_, rfl, rfl, mkRel n2 n6 hl hK hU hI hT hS⟩
  · rw [if_neg hx, if_neg hx]
    exact ⟨_, rfl, rfl, mkRel n2 n6 hl hK hU hI hT hS⟩
theorem op_path {N i : Nat} {tx : ar} {tn : Int32} {rn : Int32} {re : Int32} {rh : Int32} {ra : Int32} {rl : Int32} {rf : Int32} {dl : ar} {lt : Int32} {hp : ar} {gs : ar} {md : ar} {ct : ar} {xp : ar} {wn : ar} {wz : Int32} {tm : Int32} {la : Int32} {ps : Int32} {rv : Nat → Nat → ar} {ik : ar} {iv : Nat → Nat → ar} {sf : ar} {sg : ar} {sw : ar} {sz : Int32} {m_nodes : Int32} {m_every : Int32} {m_halves : Int32} {m_age : Int32} {m_life : Int32} {m_first : Int32} {m_now : ar} {m_undoMany : Int32} {m_undoAt : Int32} {m_undos : ar} {m_isKept : ar} {m_kept : ar} {m_letterMany : Int32} {m_text : ar} {m_seenMany : Int32} {m_seenFrom : ar} {m_seenTo : ar} {m_seen : ar} {pn : ar} {pz : Int32} {pd : Int32} {m_pathMany : Int32} {m_pathDelay : Int32} {m_path : ar} (hN : 1000 ≤ N) (hi : i < 512) (h : Rel i tx tn rn re rh ra rl rf dl lt hp gs md ct xp wn wz tm la ps rv ik iv sf sg sw sz m_nodes m_every m_halves m_age m_life m_first m_now m_undoMany m_undoAt m_undos m_isKept m_kept m_letterMany m_text m_seenMany m_seenFrom m_seenTo m_seen) (x1 x2 x3 : Int32) : ∃ (r : Int32) (pz_o : Int32) (pd_o : Int32) (pn_o : ar) (m_pathMany_o : Int32) (m_pathDelay_o : Int32) (m_path_o : ar), f_X11_path N rn ra rf dl gs md tm pn pz pd x1 x2 x3 = some (r, pz_o, pd_o, pn_o) ∧ f_X12_path N m_nodes m_age m_first m_now m_pathMany m_pathDelay m_path x1 x2 x3 = some (r, m_pathMany_o, m_pathDelay_o, m_path_o) ∧ Rel (i + 1) tx tn rn re rh ra rl rf dl lt hp gs md ct xp wn wz tm la ps rv ik iv sf sg sw sz m_nodes m_every m_halves m_age m_life m_first m_now m_undoMany m_undoAt m_undos m_isKept m_kept m_letterMany m_text m_seenMany m_seenFrom m_seenTo m_seen := by
  obtain ⟨nd, life, ⟨n2, n6, rfl, rfl⟩, ⟨rfl, rfl, rfl, rfl⟩, ⟨hl, rfl, rfl⟩, hK, hU, hI, hT, hS⟩ := h
  unfold f_X11_path f_X12_path
  rw [unC (by omega), unR (by omega) (by omega)]
  by_cases hP : (0 ≤ x1.toInt ∧ x1.toInt < nd) ∧ (0 ≤ x2.toInt ∧ x2.toInt < nd) ∧ x1 ≠ x2
  · obtain ⟨u, hu, rfl⟩ := ndx hP.1
    obtain ⟨g, hg, rfl⟩ := ndx hP.2.1
    rw [if_pos hP, if_pos hP]
    by_cases hx : (-1 : Int32) ≤ x3
    · obtain ⟨b, many, pd', pn', path', c1, c2, c3, c4⟩ := path_K (N := N) (ra := ra) (rf := rf) hK.1 hK.2.2.2.1 hK.2.2.2.2.2.1.1 (by omega) (by omega) n6 hg hu pn m_path pz
      rw [if_pos hx, if_pos hx, c1, c2, Option.bind_some, Option.bind_some]
      dsimp only
      by_cases hm : x3 = -1
      · rw [if_pos hm, if_neg (show ¬ (0 : Int32) ≤ x3 from by rw [hm]; decide)]
        exact ⟨_, _, _, _, _, _, _, rfl, rfl, mkRel n2 n6 hl hK hU hI hT hS⟩
      · have hx0 : 0 ≤ x3.toInt := by
          rw [Int32.le_iff_toInt_le] at hx
          have w : (-1 : Int32).toInt = -1 := rfl
          have := ne_ti (z := -1) hm rfl
          omega
        have hlt := x3.toInt_lt
        have hk := idxN hx0
        have hk2 : x3.toInt.toNat < 2147483648 := by omega
        generalize x3.toInt.toNat = k at hk hk2
        subst hk
        rw [if_neg hm, if_pos (show (0 : Int32) ≤ nI k from by rw [Int32.le_iff_toInt_le, i0]; exact hx0)]
        by_cases hkm : many ≤ k
        · have f1 : nI many ≤ nI k := by rw [leN (by omega) hk2]; exact hkm
          rw [if_pos f1, if_pos f1]
          exact ⟨_, _, _, _, _, _, _, rfl, rfl, mkRel n2 n6 hl hK hU hI hT hS⟩
        · have f1 : ¬ nI many ≤ nI k := by rw [leN (by omega) hk2]; exact hkm
          rw [if_neg f1, if_neg f1]
          simp (disch := omega) only [ckN, clN]
          rw [c4 k (by omega)]
          exact ⟨_, _, _, _, _, _, _, rfl, rfl, mkRel n2 n6 hl hK hU hI hT hS⟩
    · rw [if_neg hx, if_neg hx]
      exact ⟨_, _, _, _, _, _, _, rfl, rfl, mkRel n2 n6 hl hK hU hI hT hS⟩
  · rw [if_neg hP, if_neg hP]
    exact ⟨_, _, _, _, _, _, _, rfl, rfl, mkRel n2 n6 hl hK hU hI hT hS⟩
theorem op_astray {N i : Nat} {tx : ar} {tn : Int32} {rn : Int32} {re : Int32} {rh : Int32} {ra : Int32} {rl : Int32} {rf : Int32} {dl : ar} {lt : Int32} {hp : ar} {gs : ar} {md : ar} {ct : ar} {xp : ar} {wn : ar} {wz : Int32} {tm : Int32} {la : Int32} {ps : Int32} {rv : Nat → Nat → ar} {ik : ar} {iv : Nat → Nat → ar} {sf : ar} {sg : ar} {sw : ar} {sz : Int32} {m_nodes : Int32} {m_every : Int32} {m_halves : Int32} {m_age : Int32} {m_life : Int32} {m_first : Int32} {m_now : ar} {m_undoMany : Int32} {m_undoAt : Int32} {m_undos : ar} {m_isKept : ar} {m_kept : ar} {m_letterMany : Int32} {m_text : ar} {m_seenMany : Int32} {m_seenFrom : ar} {m_seenTo : ar} {m_seen : ar} {pn : ar} {pz : Int32} {pd : Int32} {m_pathMany : Int32} {m_pathDelay : Int32} {m_path : ar} (hN : 1000 ≤ N) (hi : i < 512) (h : Rel i tx tn rn re rh ra rl rf dl lt hp gs md ct xp wn wz tm la ps rv ik iv sf sg sw sz m_nodes m_every m_halves m_age m_life m_first m_now m_undoMany m_undoAt m_undos m_isKept m_kept m_letterMany m_text m_seenMany m_seenFrom m_seenTo m_seen) (x1 : Int32) : ∃ (r : Int32) (pz_o : Int32) (pd_o : Int32) (pn_o : ar) (m_pathMany_o : Int32) (m_pathDelay_o : Int32) (m_path_o : ar), f_X11_astray N rn ra rf dl gs md tm pn pz pd x1 = some (r, pz_o, pd_o, pn_o) ∧ f_X12_astray N m_nodes m_age m_first m_now m_pathMany m_pathDelay m_path x1 = some (r, m_pathMany_o, m_pathDelay_o, m_path_o) ∧ Rel (i + 1) tx tn rn re rh ra rl rf dl lt hp gs md ct xp wn wz tm la ps rv ik iv sf sg sw sz m_nodes m_every m_halves m_age m_life m_first m_now m_undoMany m_undoAt m_undos m_isKept m_kept m_letterMany m_text m_seenMany m_seenFrom m_seenTo m_seen := by
  obtain ⟨nd, life, ⟨n2, n6, rfl, rfl⟩, ⟨rfl, rfl, rfl, rfl⟩, ⟨hl, rfl, rfl⟩, hK, hU, hI, hT, hS⟩ := h
  unfold f_X11_astray f_X12_astray
  rw [ndC (by omega), ndR (by omega) (by omega)]
  by_cases hP : 0 ≤ x1.toInt ∧ x1.toInt < nd
  · obtain ⟨g, hg, rfl⟩ := ndx hP
    obtain ⟨s, pz', pd', pn', qz', qd', path', c1, c2⟩ := astray_L (N := N) (ra := ra) (rf := rf) hK.1 hK.2.2.2.1 hK.2.2.2.2.2.1.1 (by omega) (by omega) n6 hg nd 0 N N 0 pz pd pn m_pathMany m_pathDelay m_path (by omega) (by omega) (by omega)
    have q0 : nI 0 = 0 := rfl
    rw [q0] at c1 c2
    rw [if_pos hP, if_pos hP, c1, c2, Option.bind_some, Option.bind_some]
    exact ⟨_, _, _, _, _, _, _, rfl, rfl, mkRel n2 n6 hl hK hU hI hT hS⟩
  · rw [if_neg hP, if_neg hP]
    exact ⟨_, _, _, _, _, _, _, rfl, rfl, mkRel n2 n6 hl hK hU hI hT hS⟩
theorem op_least {N i : Nat} {tx : ar} {tn : Int32} {rn : Int32} {re : Int32} {rh : Int32} {ra : Int32} {rl : Int32} {rf : Int32} {dl : ar} {lt : Int32} {hp : ar} {gs : ar} {md : ar} {ct : ar} {xp : ar} {wn : ar} {wz : Int32} {tm : Int32} {la : Int32} {ps : Int32} {rv : Nat → Nat → ar} {ik : ar} {iv : Nat → Nat → ar} {sf : ar} {sg : ar} {sw : ar} {sz : Int32} {m_nodes : Int32} {m_every : Int32} {m_halves : Int32} {m_age : Int32} {m_life : Int32} {m_first : Int32} {m_now : ar} {m_undoMany : Int32} {m_undoAt : Int32} {m_undos : ar} {m_isKept : ar} {m_kept : ar} {m_letterMany : Int32} {m_text : ar} {m_seenMany : Int32} {m_seenFrom : ar} {m_seenTo : ar} {m_seen : ar} {sm : ar} {sn : Int32} {m_far : ar} (hN : 1000 ≤ N) (hi : i < 512) (h : Rel i tx tn rn re rh ra rl rf dl lt hp gs md ct xp wn wz tm la ps rv ik iv sf sg sw sz m_nodes m_every m_halves m_age m_life m_first m_now m_undoMany m_undoAt m_undos m_isKept m_kept m_letterMany m_text m_seenMany m_seenFrom m_seenTo m_seen) (x1 x2 : Int32) : ∃ (r : Int32) (sn_o : Int32) (sm_o : ar) (m_far_o : ar), f_X11_least N rn dl sm sn x1 x2 = some (r, sn_o, sm_o) ∧ f_X12_least N m_nodes m_now m_far x1 x2 = some (r, m_far_o) ∧ Rel (i + 1) tx tn rn re rh ra rl rf dl lt hp gs md ct xp wn wz tm la ps rv ik iv sf sg sw sz m_nodes m_every m_halves m_age m_life m_first m_now m_undoMany m_undoAt m_undos m_isKept m_kept m_letterMany m_text m_seenMany m_seenFrom m_seenTo m_seen := by
  obtain ⟨nd, life, ⟨n2, n6, rfl, rfl⟩, ⟨rfl, rfl, rfl, rfl⟩, ⟨hl, rfl, rfl⟩, hK, hU, hI, hT, hS⟩ := h
  unfold f_X11_least f_X12_least
  rw [ndC (by omega), ndR (by omega) (by omega)]
  by_cases hP : 0 ≤ x1.toInt ∧ x1.toInt < nd
  · rw [if_pos hP, if_pos hP, ndC (by omega), ndR (by omega) (by omega)]
    by_cases hQ : 0 ≤ x2.toInt ∧ x2.toInt < nd
    · obtain ⟨u, hu, rfl⟩ := ndx hP
      obtain ⟨v, hv, rfl⟩ := ndx hQ
      obtain ⟨sm', far', c1, c2, c3⟩ := measure_K (N := N) hK.1 (by omega) n6 (w := none) (fun k e => by cases e) sm m_far
      have q1 : encB none = -1 := rfl
      have q9 : enc none = -9 := rfl
      rw [q1] at c1
      rw [q9] at c2
      obtain ⟨r, d1, d2, -⟩ := between_K c3 n6 hu hv
      rw [if_pos hQ, if_pos hQ, c1, c2, Option.bind_some, Option.bind_some, d1, d2, Option.bind_some, Option.bind_some]
      exact ⟨_, _, _, _, rfl, rfl, mkRel n2 n6 hl hK hU hI hT hS⟩
    · rw [if_neg hQ, if_neg hQ]
      exact ⟨_, _, _, _, rfl, rfl, mkRel n2 n6 hl hK hU hI hT hS⟩
  · rw [if_neg hP, if_neg hP]
    exact ⟨_, _, _, _, rfl, rfl, mkRel n2 n6 hl hK hU hI hT hS⟩
theorem op_right {N i : Nat} {tx : ar} {tn : Int32} {rn : Int32} {re : Int32} {rh : Int32} {ra : Int32} {rl : Int32} {rf : Int32} {dl : ar} {lt : Int32} {hp : ar} {gs : ar} {md : ar} {ct : ar} {xp : ar} {wn : ar} {wz : Int32} {tm : Int32} {la : Int32} {ps : Int32} {rv : Nat → Nat → ar} {ik : ar} {iv : Nat → Nat → ar} {sf : ar} {sg : ar} {sw : ar} {sz : Int32} {m_nodes : Int32} {m_every : Int32} {m_halves : Int32} {m_age : Int32} {m_life : Int32} {m_first : Int32} {m_now : ar} {m_undoMany : Int32} {m_undoAt : Int32} {m_undos : ar} {m_isKept : ar} {m_kept : ar} {m_letterMany : Int32} {m_text : ar} {m_seenMany : Int32} {m_seenFrom : ar} {m_seenTo : ar} {m_seen : ar} {pn : ar} {pz : Int32} {pd : Int32} {sm : ar} {sn : Int32} {m_pathMany : Int32} {m_pathDelay : Int32} {m_path : ar} {m_far : ar} (hN : 1000 ≤ N) (hi : i < 512) (h : Rel i tx tn rn re rh ra rl rf dl lt hp gs md ct xp wn wz tm la ps rv ik iv sf sg sw sz m_nodes m_every m_halves m_age m_life m_first m_now m_undoMany m_undoAt m_undos m_isKept m_kept m_letterMany m_text m_seenMany m_seenFrom m_seenTo m_seen) : ∃ (r : Int32) (pz_o : Int32) (pd_o : Int32) (pn_o : ar) (sn_o : Int32) (sm_o : ar) (m_pathMany_o : Int32) (m_pathDelay_o : Int32) (m_path_o : ar) (m_far_o : ar), f_X11_right N rn ra rf dl gs md tm pn pz pd sm = some (r, pz_o, pd_o, pn_o, sn_o, sm_o) ∧ f_X12_right N m_nodes m_age m_first m_now m_pathMany m_pathDelay m_path m_far = some (r, m_pathMany_o, m_pathDelay_o, m_path_o, m_far_o) ∧ Rel (i + 1) tx tn rn re rh ra rl rf dl lt hp gs md ct xp wn wz tm la ps rv ik iv sf sg sw sz m_nodes m_every m_halves m_age m_life m_first m_now m_undoMany m_undoAt m_undos m_isKept m_kept m_letterMany m_text m_seenMany m_seenFrom m_seenTo m_seen := by
  obtain ⟨nd, life, ⟨n2, n6, rfl, rfl⟩, ⟨rfl, rfl, rfl, rfl⟩, ⟨hl, rfl, rfl⟩, hK, hU, hI, hT, hS⟩ := h
  unfold f_X11_right f_X12_right
  obtain ⟨sm', far', c1, c2, c3⟩ := measure_K (N := N) hK.1 (by omega) n6 (w := none) (fun k e => by cases e) sm m_far
  have q1 : encB none = -1 := rfl
  have q9 : enc none = -9 := rfl
  have q0 : nI 0 = 0 := rfl
  rw [q1] at c1
  rw [q9] at c2
  obtain ⟨s, pz', pd', pn', qz', qd', path', d1, d2⟩ := right_u (N := N) (ra := ra) (rf := rf) (sn := nI nd) c3 hK.1 hK.2.2.2.1 hK.2.2.2.2.2.1.1 (by omega) (by omega) n6 nd 0 N N 0 pz pd pn m_pathMany m_pathDelay m_path (by omega) (by omega) (by omega)
  rw [q0] at d1 d2
  rw [c1, c2, Option.bind_some, Option.bind_some, d1, d2, Option.bind_some, Option.bind_some]
  exact ⟨_, _, _, _, _, _, _, _, _, _, rfl, rfl, mkRel n2 n6 hl hK hU hI hT hS⟩
theorem op_hurt {N i : Nat} {tx : ar} {tn : Int32} {rn : Int32} {re : Int32} {rh : Int32} {ra : Int32} {rl : Int32} {rf : Int32} {dl : ar} {lt : Int32} {hp : ar} {gs : ar} {md : ar} {ct : ar} {xp : ar} {wn : ar} {wz : Int32} {tm : Int32} {la : Int32} {ps : Int32} {rv : Nat → Nat → ar} {ik : ar} {iv : Nat → Nat → ar} {sf : ar} {sg : ar} {sw : ar} {sz : Int32} {m_nodes : Int32} {m_every : Int32} {m_halves : Int32} {m_age : Int32} {m_life : Int32} {m_first : Int32} {m_now : ar} {m_undoMany : Int32} {m_undoAt : Int32} {m_undos : ar} {m_isKept : ar} {m_kept : ar} {m_letterMany : Int32} {m_text : ar} {m_seenMany : Int32} {m_seenFrom : ar} {m_seenTo : ar} {m_seen : ar} {sm : ar} {sn : Int32} {m_far : ar} (hN : 1000 ≤ N) (hi : i < 512) (h : Rel i tx tn rn re rh ra rl rf dl lt hp gs md ct xp wn wz tm la ps rv ik iv sf sg sw sz m_nodes m_every m_halves m_age m_life m_first m_now m_undoMany m_undoAt m_undos m_isKept m_kept m_letterMany m_text m_seenMany m_seenFrom m_seenTo m_seen) (x1 : Int32) : ∃ (r : Int32) (sn_o : Int32) (sm_o : ar) (m_far_o : ar), f_X11_hurt N rn dl lt sm sn x1 = some (r, sn_o, sm_o) ∧ f_X12_hurt N m_nodes m_now m_far x1 = some (r, m_far_o) ∧ Rel (i + 1) tx tn rn re rh ra rl rf dl lt hp gs md ct xp wn wz tm la ps rv ik iv sf sg sw sz m_nodes m_every m_halves m_age m_life m_first m_now m_undoMany m_undoAt m_undos m_isKept m_kept m_letterMany m_text m_seenMany m_seenFrom m_seenTo m_seen := by
  obtain ⟨nd, life, ⟨n2, n6, rfl, rfl⟩, ⟨rfl, rfl, rfl, rfl⟩, ⟨hl, rfl, rfl⟩, hK, hU, hI, hT, hS⟩ := h
  have hpC := pairOfC_K (N := N) hK.1 (by omega) hK.2.1.1 x1
  have hpR := pairOfR_K (row := m_now) (N := N) (by omega) x1
  have e1 := encB_1 (w := lnk m_now x1) lnk_lt
  have e9 := enc_91 (w := lnk m_now x1) lnk_lt
  unfold f_X11_hurt f_X12_hurt
  rw [hpC, hpR, Option.bind_some, Option.bind_some]
  cases hw : lnk m_now x1 with
  | none =>
    rw [if_pos (show encB none = -1 from rfl), if_pos (show enc none = -9 from rfl)]
    exact ⟨_, _, _, _, rfl, rfl, mkRel n2 n6 hl hK hU hI hT hS⟩
  | some k =>
    obtain ⟨k1, k2⟩ := lnk_some hw
    obtain ⟨s, sm', far', hs, c1, c2⟩ := hurt_K (N := N) hK.1 (by omega) n6 (w := some k) (fun j e => by cases e; exact k1) sm m_far
    rw [if_neg (show ¬ encB (some k) = -1 from ng1 k1), if_neg (show ¬ enc (some k) = -9 from ng9 k1), c1, c2, Option.bind_some, Option.bind_some]
    exact ⟨_, _, _, _, rfl, rfl, mkRel n2 n6 hl hK hU hI hT hS⟩
theorem op_worst {N i : Nat} {tx : ar} {tn : Int32} {rn : Int32} {re : Int32} {rh : Int32} {ra : Int32} {rl : Int32} {rf : Int32} {dl : ar} {lt : Int32} {hp : ar} {gs : ar} {md : ar} {ct : ar} {xp : ar} {wn : ar} {wz : Int32} {tm : Int32} {la : Int32} {ps : Int32} {rv : Nat → Nat → ar} {ik : ar} {iv : Nat → Nat → ar} {sf : ar} {sg : ar} {sw : ar} {sz : Int32} {m_nodes : Int32} {m_every : Int32} {m_halves : Int32} {m_age : Int32} {m_life : Int32} {m_first : Int32} {m_now : ar} {m_undoMany : Int32} {m_undoAt : Int32} {m_undos : ar} {m_isKept : ar} {m_kept : ar} {m_letterMany : Int32} {m_text : ar} {m_seenMany : Int32} {m_seenFrom : ar} {m_seenTo : ar} {m_seen : ar} {sm : ar} {sn : Int32} {m_far : ar} (hN : 1000 ≤ N) (hi : i < 512) (h : Rel i tx tn rn re rh ra rl rf dl lt hp gs md ct xp wn wz tm la ps rv ik iv sf sg sw sz m_nodes m_every m_halves m_age m_life m_first m_now m_undoMany m_undoAt m_undos m_isKept m_kept m_letterMany m_text m_seenMany m_seenFrom m_seenTo m_seen) : ∃ (r : Int32) (sn_o : Int32) (sm_o : ar) (m_far_o : ar), f_X11_worst N rn dl lt sm sn = some (r, sn_o, sm_o) ∧ f_X12_worst N m_nodes m_now m_far = some (r, m_far_o) ∧ Rel (i + 1) tx tn rn re rh ra rl rf dl lt hp gs md ct xp wn wz tm la ps rv ik iv sf sg sw sz m_nodes m_every m_halves m_age m_life m_first m_now m_undoMany m_undoAt m_undos m_isKept m_kept m_letterMany m_text m_seenMany m_seenFrom m_seenTo m_seen := by
  obtain ⟨nd, life, ⟨n2, n6, rfl, rfl⟩, ⟨rfl, rfl, rfl, rfl⟩, ⟨hl, rfl, rfl⟩, hK, hU, hI, hT, hS⟩ := h
  unfold f_X11_worst f_X12_worst
  have hcl := cnt_le (lf m_now) 36 0
  obtain ⟨r, sn', sm', far', c1, c2⟩ := worst_L (N := N) hK.1 (by omega) n6 (c := cntF (lf m_now) 36 0) rfl hK.2.1.1 (cntF (lf m_now) 36 0) 0 N N (-9) 0 (-1) sn sm m_far (by omega) (by omega) (by omega) (Or.inl ⟨rfl, rfl⟩)
  have q0 : nI 0 = 0 := rfl
  rw [q0] at c1 c2
  rw [linkMany_K (by omega), Option.bind_some, c1, c2, Option.bind_some, Option.bind_some]
  exact ⟨_, _, _, _, rfl, rfl, mkRel n2 n6 hl hK hU hI hT hS⟩
theorem op_sees {N i : Nat} {tx : ar} {tn : Int32} {rn : Int32} {re : Int32} {rh : Int32} {ra : Int32} {rl : Int32} {rf : Int32} {dl : ar} {lt : Int32} {hp : ar} {gs : ar} {md : ar} {ct : ar} {xp : ar} {wn : ar} {wz : Int32} {tm : Int32} {la : Int32} {ps : Int32} {rv : Nat → Nat → ar} {ik : ar} {iv : Nat → Nat → ar} {sf : ar} {sg : ar} {sw : ar} {sz : Int32} {m_nodes : Int32} {m_every : Int32} {m_halves : Int32} {m_age : Int32} {m_life : Int32} {m_first : Int32} {m_now : ar} {m_undoMany : Int32} {m_undoAt : Int32} {m_undos : ar} {m_isKept : ar} {m_kept : ar} {m_letterMany : Int32} {m_text : ar} {m_seenMany : Int32} {m_seenFrom : ar} {m_seenTo : ar} {m_seen : ar} (hN : 1000 ≤ N) (hi : i < 512) (h : Rel i tx tn rn re rh ra rl rf dl lt hp gs md ct xp wn wz tm la ps rv ik iv sf sg sw sz m_nodes m_every m_halves m_age m_life m_first m_now m_undoMany m_undoAt m_undos m_isKept m_kept m_letterMany m_text m_seenMany m_seenFrom m_seenTo m_seen) (x1 x2 x3 : Int32) : ∃ (r : Int32) (sz_o : Int32) (sf_o : ar) (sg_o : ar) (sw_o : ar) (m_seenMany_o : Int32) (m_seenFrom_o : ar) (m_seenTo_o : ar) (m_seen_o : ar), f_X11_sees rn sf sg sw sz x1 x2 x3 = some (r, sz_o, sf_o, sg_o, sw_o) ∧ f_X12_sees m_nodes m_seenMany m_seenFrom m_seenTo m_seen x1 x2 x3 = some (r, m_seenMany_o, m_seenFrom_o, m_seenTo_o, m_seen_o) ∧ Rel (i + 1) tx tn rn re rh ra rl rf dl lt hp gs md ct xp wn wz tm la ps rv ik iv sf_o sg_o sw_o sz_o m_nodes m_every m_halves m_age m_life m_first m_now m_undoMany m_undoAt m_undos m_isKept m_kept m_letterMany m_text m_seenMany_o m_seenFrom_o m_seenTo_o m_seen_o := by
  obtain ⟨nd, life, ⟨n2, n6, rfl, rfl⟩, ⟨rfl, rfl, rfl, rfl⟩, ⟨hl, rfl, rfl⟩, hK, hU, hI, hT, hS⟩ := h
  obtain ⟨k, hk, rfl, rfl, hs⟩ := hS
  unfold f_X11_sees f_X12_sees f_X8_append
  rw [unC (by omega), unR (by omega) (by omega)]
  by_cases hP : (0 ≤ x1.toInt ∧ x1.toInt < nd) ∧ (0 ≤ x2.toInt ∧ x2.toInt < nd) ∧ x1 ≠ x2
  · obtain ⟨u, hu, rfl⟩ := ndx hP.1
    obtain ⟨g, hg, rfl⟩ := ndx hP.2.1
    rw [if_pos hP, if_pos hP]
    have eI := inR (α := Int32 × Int32 × ar × ar × ar) x3 0 99 (by omega) (by omega)
    have q0 : nI 0 = 0 := rfl
    have q2 : nI 99 = 99 := rfl
    rw [q0, q2] at eI
    rw [eI]
    by_cases hd : ((0 : Nat) : Int) ≤ x3.toInt ∧ x3.toInt ≤ ((99 : Nat) : Int)
    · have h1 : ¬ x3 < 0 := by rw [Int32.lt_iff_toInt_lt, i0]; omega
      have h2 : x3 ≤ 99 := by
        rw [Int32.le_iff_toInt_le]
        have w4 : (99 : Int32).toInt = 99 := rfl
        omega
      rw [if_pos hd, if_neg h1, if_pos h2]
      by_cases hk6 : k = 6
      · subst hk6
        rw [if_neg (show ¬ nI 6 < 6 from by decide), if_pos (show nI 6 = 6 from rfl), Option.bind_some]
        exact ⟨_, _, _, _, _, _, _, _, _, rfl, rfl, mkRel n2 n6 hl hK hU hI hT ⟨6, by omega, rfl, rfl, hs⟩⟩
      · rw [if_pos (show nI k < 6 from nI_lt (b := 6) (by omega) (by omega)), if_neg (show ¬ nI k = 6 from fun q => hk6 ((nI_eq (b := 6) (by omega) (by omega)).mp q))]
        simp (disch := omega) only [ckN, clN, Option.bind_some, nI_1]
        refine ⟨_, _, _, _, _, _, _, _, _, rfl, rfl, mkRel n2 n6 hl hK hU hI hT ⟨k + 1, by omega, rfl, rfl, fun j hj => ?_⟩⟩
        by_cases e : j = k
        · subst e
          exact ⟨u, g, hu, hg, pk_us, pk_us, pk_us, pk_us, by rw [pk_us, pk_us]⟩
        · obtain ⟨u', d', c1, c2, c3, c4, c5, c6, c7⟩ := hs j (by omega)
          refine ⟨u', d', c1, c2, ?_, ?_, ?_, ?_, ?_⟩
          · rw [pk_un e]; exact c3
          · rw [pk_un e]; exact c4
          · rw [pk_un e]; exact c5
          · rw [pk_un e]; exact c6
          · rw [pk_un e, pk_un e]; exact c7
    · rw [if_neg hd]
      have hc : ∀ (A Bq : Option (Int32 × Int32 × ar × ar × ar)), (if x3 < 0 then A else if x3 ≤ 99 then Bq else A) = A := by
        intro A Bq
        by_cases h1 : x3 < 0
        · rw [if_pos h1]
        · rw [if_neg h1, if_neg]
          rw [Int32.lt_iff_toInt_lt, i0] at h1
          rw [Int32.le_iff_toInt_le]
          have w4 : (99 : Int32).toInt = 99 := rfl
          omega
      rw [hc]
      exact ⟨_, _, _, _, _, _, _, _, _, rfl, rfl, mkRel n2 n6 hl hK hU hI hT ⟨k, hk, rfl, rfl, hs⟩⟩
  · rw [if_neg hP, if_neg hP]
    exact ⟨_, _, _, _, _, _, _, _, _, rfl, rfl, mkRel n2 n6 hl hK hU hI hT ⟨k, hk, rfl, rfl, hs⟩⟩
theorem op_forget {N i : Nat} {tx : ar} {tn : Int32} {rn : Int32} {re : Int32} {rh : Int32} {ra : Int32} {rl : Int32} {rf : Int32} {dl : ar} {lt : Int32} {hp : ar} {gs : ar} {md : ar} {ct : ar} {xp : ar} {wn : ar} {wz : Int32} {tm : Int32} {la : Int32} {ps : Int32} {rv : Nat → Nat → ar} {ik : ar} {iv : Nat → Nat → ar} {sf : ar} {sg : ar} {sw : ar} {sz : Int32} {m_nodes : Int32} {m_every : Int32} {m_halves : Int32} {m_age : Int32} {m_life : Int32} {m_first : Int32} {m_now : ar} {m_undoMany : Int32} {m_undoAt : Int32} {m_undos : ar} {m_isKept : ar} {m_kept : ar} {m_letterMany : Int32} {m_text : ar} {m_seenMany : Int32} {m_seenFrom : ar} {m_seenTo : ar} {m_seen : ar} (hN : 1000 ≤ N) (hi : i < 512) (h : Rel i tx tn rn re rh ra rl rf dl lt hp gs md ct xp wn wz tm la ps rv ik iv sf sg sw sz m_nodes m_every m_halves m_age m_life m_first m_now m_undoMany m_undoAt m_undos m_isKept m_kept m_letterMany m_text m_seenMany m_seenFrom m_seenTo m_seen) : ∃ (r : Int32) (sz_o : Int32) (m_seenMany_o : Int32), f_X11_forget sz = some (r, sz_o) ∧ f_X12_forget m_seenMany = some (r, m_seenMany_o) ∧ Rel (i + 1) tx tn rn re rh ra rl rf dl lt hp gs md ct xp wn wz tm la ps rv ik iv sf sg sw sz_o m_nodes m_every m_halves m_age m_life m_first m_now m_undoMany m_undoAt m_undos m_isKept m_kept m_letterMany m_text m_seenMany_o m_seenFrom m_seenTo m_seen := by
  obtain ⟨nd, life, ⟨n2, n6, rfl, rfl⟩, ⟨rfl, rfl, rfl, rfl⟩, ⟨hl, rfl, rfl⟩, hK, hU, hI, hT, hS⟩ := h
  obtain ⟨k, hk, rfl, rfl, hs⟩ := hS
  exact ⟨_, _, _, rfl, rfl, mkRel n2 n6 hl hK hU hI hT ⟨0, by omega, rfl, rfl, fun j hj => by omega⟩⟩
theorem op_unseen {N i : Nat} {tx : ar} {tn : Int32} {rn : Int32} {re : Int32} {rh : Int32} {ra : Int32} {rl : Int32} {rf : Int32} {dl : ar} {lt : Int32} {hp : ar} {gs : ar} {md : ar} {ct : ar} {xp : ar} {wn : ar} {wz : Int32} {tm : Int32} {la : Int32} {ps : Int32} {rv : Nat → Nat → ar} {ik : ar} {iv : Nat → Nat → ar} {sf : ar} {sg : ar} {sw : ar} {sz : Int32} {m_nodes : Int32} {m_every : Int32} {m_halves : Int32} {m_age : Int32} {m_life : Int32} {m_first : Int32} {m_now : ar} {m_undoMany : Int32} {m_undoAt : Int32} {m_undos : ar} {m_isKept : ar} {m_kept : ar} {m_letterMany : Int32} {m_text : ar} {m_seenMany : Int32} {m_seenFrom : ar} {m_seenTo : ar} {m_seen : ar} {sm : ar} {sn : Int32} {m_far : ar} (hN : 1000 ≤ N) (hi : i < 512) (h : Rel i tx tn rn re rh ra rl rf dl lt hp gs md ct xp wn wz tm la ps rv ik iv sf sg sw sz m_nodes m_every m_halves m_age m_life m_first m_now m_undoMany m_undoAt m_undos m_isKept m_kept m_letterMany m_text m_seenMany m_seenFrom m_seenTo m_seen) : ∃ (r : Int32) (sn_o : Int32) (sm_o : ar) (m_far_o : ar), f_X11_unseen N rn dl lt sm sn sf sg sw sz = some (r, sn_o, sm_o) ∧ f_X12_unseen N m_nodes m_now m_far m_seenMany m_seenFrom m_seenTo m_seen = some (r, m_far_o) ∧ Rel (i + 1) tx tn rn re rh ra rl rf dl lt hp gs md ct xp wn wz tm la ps rv ik iv sf sg sw sz m_nodes m_every m_halves m_age m_life m_first m_now m_undoMany m_undoAt m_undos m_isKept m_kept m_letterMany m_text m_seenMany m_seenFrom m_seenTo m_seen := by
  obtain ⟨nd, life, ⟨n2, n6, rfl, rfl⟩, ⟨rfl, rfl, rfl, rfl⟩, ⟨hl, rfl, rfl⟩, hK, hU, hI, hT, hS⟩ := h
  obtain ⟨k, hk, rfl, rfl, hs⟩ := hS
  unfold f_X11_unseen f_X12_unseen
  have hcl := cnt_le (lf m_now) 36 0
  obtain ⟨r, sn', sm', far', c1, c2⟩ := unseen_L (N := N) hK.1 (by omega) n6 (c := cntF (lf m_now) 36 0) hk hs rfl hK.2.1.1 (cntF (lf m_now) 36 0) 0 N N 0 sn sm m_far (by omega) (by omega) (by omega)
  have q0 : nI 0 = 0 := rfl
  rw [q0] at c1 c2
  rw [linkMany_K (by omega), Option.bind_some, c1, c2, Option.bind_some, Option.bind_some]
  exact ⟨_, _, _, _, rfl, rfl, mkRel n2 n6 hl hK hU hI hT ⟨k, hk, rfl, rfl, hs⟩⟩
theorem op_keep {N i : Nat} {tx : ar} {tn : Int32} {rn : Int32} {re : Int32} {rh : Int32} {ra : Int32} {rl : Int32} {rf : Int32} {dl : ar} {lt : Int32} {hp : ar} {gs : ar} {md : ar} {ct : ar} {xp : ar} {wn : ar} {wz : Int32} {tm : Int32} {la : Int32} {ps : Int32} {rv : Nat → Nat → ar} {ik : ar} {iv : Nat → Nat → ar} {sf : ar} {sg : ar} {sw : ar} {sz : Int32} {m_nodes : Int32} {m_every : Int32} {m_halves : Int32} {m_age : Int32} {m_life : Int32} {m_first : Int32} {m_now : ar} {m_undoMany : Int32} {m_undoAt : Int32} {m_undos : ar} {m_isKept : ar} {m_kept : ar} {m_letterMany : Int32} {m_text : ar} {m_seenMany : Int32} {m_seenFrom : ar} {m_seenTo : ar} {m_seen : ar} (hN : 1000 ≤ N) (hi : i < 512) (h : Rel i tx tn rn re rh ra rl rf dl lt hp gs md ct xp wn wz tm la ps rv ik iv sf sg sw sz m_nodes m_every m_halves m_age m_life m_first m_now m_undoMany m_undoAt m_undos m_isKept m_kept m_letterMany m_text m_seenMany m_seenFrom m_seenTo m_seen) (x1 : Int32) : ∃ (r : Int32) (ik_o : ar) (iv_o : Nat → Nat → ar) (m_isKept_o : ar) (m_kept_o : ar), f_X11_keep dl lt hp gs md ct xp wn wz tm iv ik x1 = some (r, ik_o, iv_o) ∧ f_X12_keep N m_now m_isKept m_kept x1 = some (r, m_isKept_o, m_kept_o) ∧ Rel (i + 1) tx tn rn re rh ra rl rf dl lt hp gs md ct xp wn wz tm la ps rv ik_o iv_o sf sg sw sz m_nodes m_every m_halves m_age m_life m_first m_now m_undoMany m_undoAt m_undos m_isKept_o m_kept_o m_letterMany m_text m_seenMany m_seenFrom m_seenTo m_seen := by
  obtain ⟨nd, life, ⟨n2, n6, rfl, rfl⟩, ⟨rfl, rfl, rfl, rfl⟩, ⟨hl, rfl, rfl⟩, hK, hU, hI, hT, hS⟩ := h
  unfold f_X11_keep f_X12_keep
  have hi0 : ∀ x : Int32, f_X11_isImage x = some (decide (((0 : Nat) : Int) ≤ x.toInt ∧ x.toInt ≤ ((1 : Nat) : Int))) := by
    intro x
    unfold f_X11_isImage
    simp only [Int32.lt_iff_toInt_lt, Int32.le_iff_toInt_le, i0]
    have e : (2 : Int32).toInt = 2 := rfl
    rw [e]
    split
    · rw [decide_eq_false (by omega)]
    · split
      · rw [decide_eq_false (by omega)]
      · rw [decide_eq_true (by omega)]
  have q0 : nI 0 = 0 := rfl
  have q2 : nI 1 = 1 := rfl
  have eI := inR (α := Int32 × ar × ar) x1 0 1 (by omega) (by omega)
  rw [q0, q2] at eI
  rw [eI, hi0, Option.bind_some]
  by_cases hd : ((0 : Nat) : Int) ≤ x1.toInt ∧ x1.toInt ≤ ((1 : Nat) : Int)
  · rw [if_pos hd, decide_eq_true hd, if_neg (show ¬ b2i true = 0 from by decide)]
    have hk := idxN (x := x1) (by omega)
    have hk2 : x1.toInt.toNat < 2 := by omega
    generalize x1.toInt.toNat = k at hk hk2
    subst hk
    simp (disch := omega) only [ckN, clN]
    have hkp := keep_L (now := m_now) (at_ := k) hk2 N 0 m_kept (by omega) (by omega)
    rw [q0] at hkp
    obtain ⟨dl', hp', gs', md', ct', xp', wn', c1, c2⟩ := copyK (B' := 14400 * i) (Nat.le_refl _) (fun j _ => rfl) hK (iv k 0) (iv k 1) (iv k 2) (iv k 3) (iv k 4) (iv k 5) (iv k 6)
    rw [c1, Option.bind_some, hkp, Option.bind_some, linkMany_K (by omega), Option.bind_some, ← hK.2.1.1]
    refine ⟨_, _, _, _, _, rfl, rfl, mkRel n2 n6 hl hK hU (B3 := 14400 * i) (fun j hj => ?_) hT hS⟩
    by_cases e : j = k
    · subst e
      refine ⟨by rw [pk_us, pk_us], fun _ => ?_⟩
      unfold RKv
      have e3 : va_up iv j (kvT dl' hp' gs' md' ct' xp' wn' lt wz tm) j = kvT dl' hp' gs' md' ct' xp' wn' lt wz tm := by simp [va_up]
      rw [e3]
      refine RK.cong (Nat.le_refl _) (fun _ _ => rfl) (fun _ _ => rfl) (fun _ _ => rfl) (fun _ _ => rfl) (fun _ _ => rfl) (fun _ _ => rfl) (fun _ _ => rfl) (fun q hq => ?_) c2
      show m_now q = if 622 * j + 0 ≤ 622 * j + q ∧ 622 * j + q < 622 * j + 622 then m_now (622 * j + q - 622 * j) else m_kept (622 * j + q)
      rw [if_pos (by omega)]
      congr 1
      omega
    · obtain ⟨r1, r2⟩ := hI j hj
      rw [pk_un e, pk_un e]
      refine ⟨r1, fun z => ?_⟩
      have := r2 z
      unfold RKv at this ⊢
      have e3 : va_up iv k (kvT dl' hp' gs' md' ct' xp' wn' lt wz tm) j = iv j := by simp [va_up, e]
      rw [e3]
      refine RK.cong (Nat.le_refl _) (fun _ _ => rfl) (fun _ _ => rfl) (fun _ _ => rfl) (fun _ _ => rfl) (fun _ _ => rfl) (fun _ _ => rfl) (fun _ _ => rfl) (fun q hq => ?_) this
      show m_kept (622 * j + q) = if 622 * k + 0 ≤ 622 * j + q ∧ 622 * j + q < 622 * k + 622 then m_now (622 * j + q - 622 * k) else m_kept (622 * j + q)
      rw [if_neg (by omega)]
  · rw [if_neg hd, decide_eq_false hd, if_pos (show b2i false = 0 from rfl)]
    exact ⟨_, _, _, _, _, rfl, rfl, mkRel n2 n6 hl hK hU hI hT hS⟩
theorem op_back {N i : Nat} {tx : ar} {tn : Int32} {rn : Int32} {re : Int32} {rh : Int32} {ra : Int32} {rl : Int32} {rf : Int32} {dl : ar} {lt : Int32} {hp : ar} {gs : ar} {md : ar} {ct : ar} {xp : ar} {wn : ar} {wz : Int32} {tm : Int32} {la : Int32} {ps : Int32} {rv : Nat → Nat → ar} {ik : ar} {iv : Nat → Nat → ar} {sf : ar} {sg : ar} {sw : ar} {sz : Int32} {m_nodes : Int32} {m_every : Int32} {m_halves : Int32} {m_age : Int32} {m_life : Int32} {m_first : Int32} {m_now : ar} {m_undoMany : Int32} {m_undoAt : Int32} {m_undos : ar} {m_isKept : ar} {m_kept : ar} {m_letterMany : Int32} {m_text : ar} {m_seenMany : Int32} {m_seenFrom : ar} {m_seenTo : ar} {m_seen : ar} (hN : 1000 ≤ N) (hi : i < 512) (h : Rel i tx tn rn re rh ra rl rf dl lt hp gs md ct xp wn wz tm la ps rv ik iv sf sg sw sz m_nodes m_every m_halves m_age m_life m_first m_now m_undoMany m_undoAt m_undos m_isKept m_kept m_letterMany m_text m_seenMany m_seenFrom m_seenTo m_seen) (x1 : Int32) : ∃ (r : Int32) (wz_o : Int32) (tm_o : Int32) (lt_o : Int32) (dl_o : ar) (hp_o : ar) (gs_o : ar) (md_o : ar) (ct_o : ar) (xp_o : ar) (wn_o : ar) (ps_o : Int32) (m_undoMany_o : Int32) (m_now_o : ar), f_X11_back dl lt hp gs md ct xp wn wz tm ps iv ik x1 = some (r, wz_o, tm_o, lt_o, dl_o, hp_o, gs_o, md_o, ct_o, xp_o, wn_o, ps_o) ∧ f_X12_back N m_now m_undoMany m_isKept m_kept x1 = some (r, m_undoMany_o, m_now_o) ∧ Rel (i + 1) tx tn rn re rh ra rl rf dl_o lt_o hp_o gs_o md_o ct_o xp_o wn_o wz_o tm_o la ps_o rv ik iv sf sg sw sz m_nodes m_every m_halves m_age m_life m_first m_now_o m_undoMany_o m_undoAt m_undos m_isKept m_kept m_letterMany m_text m_seenMany m_seenFrom m_seenTo m_seen := by
  obtain ⟨nd, life, ⟨n2, n6, rfl, rfl⟩, ⟨rfl, rfl, rfl, rfl⟩, ⟨hl, rfl, rfl⟩, hK, hU, hI, hT, hS⟩ := h
  unfold f_X11_back f_X12_back
  have hi0 : ∀ x : Int32, f_X11_isImage x = some (decide (((0 : Nat) : Int) ≤ x.toInt ∧ x.toInt ≤ ((1 : Nat) : Int))) := by
    intro x
    unfold f_X11_isImage
    simp only [Int32.lt_iff_toInt_lt, Int32.le_iff_toInt_le, i0]
    have e : (2 : Int32).toInt = 2 := rfl
    rw [e]
    split
    · rw [decide_eq_false (by omega)]
    · split
      · rw [decide_eq_false (by omega)]
      · rw [decide_eq_true (by omega)]
  have q0 : nI 0 = 0 := rfl
  have q2 : nI 1 = 1 := rfl
  have eI := inR (α := Int32 × Int32 × ar) x1 0 1 (by omega) (by omega)
  rw [q0, q2] at eI
  rw [eI, hi0, Option.bind_some]
  by_cases hd : ((0 : Nat) : Int) ≤ x1.toInt ∧ x1.toInt ≤ ((1 : Nat) : Int)
  · rw [if_pos hd, decide_eq_true hd, if_neg (show ¬ b2i true = 0 from by decide)]
    have hk := idxN (x := x1) (by omega)
    have hk2 : x1.toInt.toNat < 2 := by omega
    generalize x1.toInt.toNat = k at hk hk2
    subst hk
    simp (disch := omega) only [ckN, clN]
    obtain ⟨r1, r2⟩ := hI k hk2
    rw [← r1]
    by_cases hz : ik k = 0
    · rw [if_pos hz, if_pos hz]
      exact ⟨_, _, _, _, _, _, _, _, _, _, _, _, _, _, rfl, rfl, mkRel n2 n6 hl hK hU hI hT hS⟩
    · have r3 := r2 hz
      unfold RKv at r3
      have hkp := back_L (kept := m_kept) (at_ := k) hk2 N 0 m_now (by omega) (by omega)
      rw [q0] at hkp
      obtain ⟨dl', hp', gs', md', ct', xp', wn', c1, c2⟩ := copyK (row' := fun j => if 0 ≤ j ∧ j < 622 then m_kept (622 * k + j) else m_now j) (B' := 14400 * i) (Nat.le_refl _) (fun j hj => by rw [if_pos (by omega)]) r3 dl hp gs md ct xp wn
      rw [if_neg hz, if_neg hz, c1, Option.bind_some, hkp, Option.bind_some, linkMany_K (by omega), Option.bind_some, ← c2.2.1.1]
      obtain ⟨ua, un, u1, u2, u3, u4, u5, u6, u7⟩ := hU
      exact ⟨_, _, _, _, _, _, _, _, _, _, _, _, _, _, rfl, rfl, mkRel n2 n6 hl c2 ⟨ua, 0, u1, by omega, u3, u4, rfl, rfl, fun j hj => by omega⟩ hI hT hS (by omega) (B2 := 0) (by omega) (by omega)⟩
  · rw [if_neg hd, decide_eq_false hd, if_pos (show b2i false = 0 from rfl)]
    exact ⟨_, _, _, _, _, _, _, _, _, _, _, _, _, _, rfl, rfl, mkRel n2 n6 hl hK hU hI hT hS⟩
theorem op_count {N i : Nat} {tx : ar} {tn : Int32} {rn : Int32} {re : Int32} {rh : Int32} {ra : Int32} {rl : Int32} {rf : Int32} {dl : ar} {lt : Int32} {hp : ar} {gs : ar} {md : ar} {ct : ar} {xp : ar} {wn : ar} {wz : Int32} {tm : Int32} {la : Int32} {ps : Int32} {rv : Nat → Nat → ar} {ik : ar} {iv : Nat → Nat → ar} {sf : ar} {sg : ar} {sw : ar} {sz : Int32} {m_nodes : Int32} {m_every : Int32} {m_halves : Int32} {m_age : Int32} {m_life : Int32} {m_first : Int32} {m_now : ar} {m_undoMany : Int32} {m_undoAt : Int32} {m_undos : ar} {m_isKept : ar} {m_kept : ar} {m_letterMany : Int32} {m_text : ar} {m_seenMany : Int32} {m_seenFrom : ar} {m_seenTo : ar} {m_seen : ar} (hN : 1000 ≤ N) (hi : i < 512) (h : Rel i tx tn rn re rh ra rl rf dl lt hp gs md ct xp wn wz tm la ps rv ik iv sf sg sw sz m_nodes m_every m_halves m_age m_life m_first m_now m_undoMany m_undoAt m_undos m_isKept m_kept m_letterMany m_text m_seenMany m_seenFrom m_seenTo m_seen) (x1 : Int32) : ∃ (r : Int32), f_X11_count tn rn re rh ra rl rf lt tm ps sz x1 = some r ∧ f_X12_count N m_nodes m_every m_halves m_age m_life m_first m_now m_undoMany m_letterMany m_seenMany x1 = some r ∧ Rel (i + 1) tx tn rn re rh ra rl rf dl lt hp gs md ct xp wn wz tm la ps rv ik iv sf sg sw sz m_nodes m_every m_halves m_age m_life m_first m_now m_undoMany m_undoAt m_undos m_isKept m_kept m_letterMany m_text m_seenMany m_seenFrom m_seenTo m_seen := by
  obtain ⟨nd, life, ⟨n2, n6, rfl, rfl⟩, ⟨rfl, rfl, rfl, rfl⟩, ⟨hl, rfl, rfl⟩, hK, hU, hI, hT, hS⟩ := h
  obtain ⟨k, hk, rfl, rfl, hs⟩ := hS
  obtain ⟨len, c, rfl, rfl, T1, T2⟩ := hT
  obtain ⟨ua, un, u1, u2, u3, u4, u5, u6, u7⟩ := hU
  subst u3; subst u4; subst u5; subst u6
  have hc : ∃ r, f_X11_count (nI len) (nI nd) re rh ra (nI life) rf lt tm (nI un) (nI k) x1 = some r := by
    unfold f_X11_count
    repeat' split
    all_goals exact ⟨_, rfl⟩
  obtain ⟨r, hr⟩ := hc
  refine ⟨r, hr, ?_, mkRel n2 n6 hl hK ⟨ua, un, u1, u2, rfl, rfl, rfl, rfl, u7⟩ hI ⟨len, c, rfl, rfl, T1, T2⟩ ⟨k, hk, rfl, rfl, hs⟩⟩
  rw [← hr]
  unfold f_X11_count f_X12_count
  rw [linkMany_K (by omega), Option.bind_some, ← hK.2.1.1]
  have hck : ∀ (A : Option Int32), ck (inb 0 622) A = A := fun A => ckN (a := 0) (n := 622) (by omega) (by omega)
  have hcl : (0 : Int32).toNatClampNeg = 0 := rfl
  rw [hck, hcl, ← hK.2.2.2.2.2.1.1]
