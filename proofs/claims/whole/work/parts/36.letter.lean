/-- the row behind a hop, its way too -/
def rowW (row : ar) (u v c h : Nat) (j G : Int32) : ar := upd (upd (rowH row u v c j G) 1 (nI (h + 1))) (2 + (h + 1)) (nI v)
theorem rowW_at {row : ar} {u v c h : Nat} {j G : Int32} (hu : u < 6) (hv : v < 6) (hc : c < 216) (hh : h < 100) : (∀ k, 118 ≤ k → k < 154 → rowW row u v c h j G k = row k) ∧ rowW row u v c h j G 0 = row 0 + 1 ∧ rowW row u v c h j G 1 = nI (h + 1) ∧ rowW row u v c h j G (2 + (h + 1)) = nI v ∧ (∀ k, k ≤ h → rowW row u v c h j G (2 + k) = row (2 + k)) ∧ (∀ k, k < 6 → rowW row u v c h j G (106 + k) = upd (fun i => row (106 + i)) u (row (106 + u) + 1) k) ∧ (∀ k, k < 6 → rowW row u v c h j G (112 + k) = upd (fun i => row (112 + i)) u (row (112 + u) + j) k) ∧ (∀ k, k < 36 → rowW row u v c h j G (154 + k) = upd (fun i => row (154 + i)) (pr u v) (row (154 + pr u v) + 1) k) ∧ (∀ k, k < 216 → rowW row u v c h j G (190 + k) = upd (fun i => row (190 + i)) c G k) ∧ (∀ k, k < 216 → rowW row u v c h j G (406 + k) = upd (fun i => row (406 + i)) c (row 0 + 1) k) := by
  have hp := pr_lt hu hv
  unfold rowW rowH
  refine ⟨fun k h1 h2 => ?_, ?_, ?_, ?_, fun k hk => ?_, fun k hk => ?_, fun k hk => ?_, fun k hk => ?_, fun k hk => ?_, fun k hk => ?_⟩
  · simp (disch := omega) only [pk_un]
  · simp (disch := omega) only [pk_un, pk_us]
  · simp (disch := omega) only [pk_un, pk_us]
  · simp only [pk_us]
  · simp (disch := omega) only [pk_un]
  · by_cases e : k = u
    · subst e; simp (disch := omega) only [pk_un, pk_us]
    · simp (disch := omega) only [pk_un]
  · by_cases e : k = u
    · subst e; simp (disch := omega) only [pk_un, pk_us]
    · simp (disch := omega) only [pk_un]
  · by_cases e : k = pr u v
    · subst e; simp (disch := omega) only [pk_un, pk_us]
    · simp (disch := omega) only [pk_un]
  · by_cases e : k = c
    · subst e; simp (disch := omega) only [pk_un, pk_us]
    · simp (disch := omega) only [pk_un]
  · by_cases e : k = c
    · subst e; simp (disch := omega) only [pk_un, pk_us]
    · simp (disch := omega) only [pk_un]
theorem pr_up {u v a b : Nat} (huv : u ≠ v) (hu : u < 6) (hv : v < 6) : ∃ a b, a < b ∧ b < 6 ∧ pr u v = 6 * a + b := by
  unfold pr
  by_cases h : v ≤ u
  · exact ⟨v, u, by omega, hu, by rw [if_pos h]⟩
  · exact ⟨u, v, by omega, hv, by rw [if_neg h]⟩
theorem stepRK {nd B : Nat} {dl : ar} {lt : Int32} {hp gs md ct xp wn : ar} {wz tm : Int32} {row : ar} {u v c h : Nat} {e : Bool} {G : Int32} (hR : RK nd B dl lt hp gs md ct xp wn wz tm row) (hB : B + 1 < 2147483648) (hw1 : row 1 = nI h) (hw2 : ∀ k, k ≤ h → wn k = row (2 + k)) (hh : h < 100) (hu : u < 6) (hv : v < 6) (huv : u ≠ v) (hc : c < 216) : RK nd (B + 1) dl lt (upd hp (pr u v) (hp (pr u v) + 1)) (upd gs c G) (upd md c (tm + 1)) (upd ct u (ct u + 1)) (if e = true then upd xp u (xp u + 1) else xp) (upd wn (h + 1) (nI v)) (nI (h + 2)) (tm + 1) (rowW row u v c h (if e = true then 1 else 0) G) := by
  obtain ⟨h1, ⟨h2, h2b⟩, h3, h4, h5, ⟨h6, t, ht, h6b⟩, -⟩ := hR
  obtain ⟨r1, r2, r3, r4, r5, r6, r7, r8, r9, r10⟩ := rowW_at (row := row) (j := if e = true then 1 else 0) (G := G) hu hv hc hh
  generalize rowW row u v c h (if e = true then 1 else 0) G = row' at *
  have hcnt : cntF (lf row') 36 0 = cntF (lf row) 36 0 := cnt_same _ _ _ _ (fun i _ h => by unfold lf; rw [r1 _ (by omega) (by omega)])
  refine ⟨h1.rc2 r1, ⟨by rw [hcnt]; exact h2, by rw [hcnt]; exact h2b⟩, fun a b hab hb => ?_, fun k hk => ?_, fun k hk => ?_, ⟨by rw [r2, h6], t + 1, by omega, by rw [h6b, nI_1]⟩, Or.inr ⟨h + 1, by omega, rfl, r3, fun k hk => ?_⟩⟩
  · rw [r8 _ (by omega)]
    obtain ⟨a0, b0, q1, q2, q3⟩ := pr_up (a := 0) (b := 0) huv hu hv
    unfold upd
    by_cases e1 : 6 * a + b = pr u v
    · rw [if_pos e1, if_pos e1, q3, h3 a0 b0 q1 q2]
    · rw [if_neg e1, if_neg e1]; exact h3 a b hab hb
  · rw [r10 k hk, r9 k hk]
    unfold upd
    by_cases e1 : k = c
    · rw [if_pos e1, if_pos e1, if_pos e1, if_pos e1]
      refine Or.inr ⟨by rw [h6], ?_, rfl⟩
      rw [h6b, nI_1, nI_toInt (by omega)]
      omega
    · rw [if_neg e1, if_neg e1, if_neg e1, if_neg e1]; exact h4 k hk
  · rw [r6 k hk, r7 k hk]
    have h7 := h5 k hk
    have h8 := h5 u hu
    unfold upd
    constructor
    · by_cases e1 : k = u
      · rw [if_pos e1, if_pos e1, h8.1]
      · rw [if_neg e1, if_neg e1]; exact h7.1
    · cases e with
      | true =>
        simp only [if_true]
        by_cases e1 : k = u
        · rw [if_pos e1, if_pos e1, h8.2]
        · rw [if_neg e1, if_neg e1]; exact h7.2
      | false =>
        simp only [Bool.false_eq_true, if_false]
        by_cases e1 : k = u
        · rw [if_pos e1, e1, h8.2]
          apply Int32.toInt_inj.mp
          simp
        · rw [if_neg e1]; exact h7.2
  · by_cases e1 : k = h + 1
    · subst e1
      rw [r4, pk_us]
    · rw [pk_un e1, r5 k (by omega)]
      exact hw2 k (by omega)
theorem countHop_N {hp wn : ar} {u v h : Nat} (huv : u ≠ v) (hu : u < 6) (hv : v < 6) (hh : h < 100) : f_X1_countHop hp wn (nI (h + 1)) (nI u) (nI v) = some (nI (h + 2), upd hp (pr u v) (hp (pr u v) + 1), upd wn (h + 1) (nI v)) := by
  have hp' := pr_lt hu hv
  have e1 : f_X11_pairCell (if nI v < nI u then nI v else nI u) (if nI u < nI v then nI v else nI u) = some (nI (pr u v)) := by
    simp (disch := omega) only [ltN]
    unfold pr
    by_cases h : v < u
    · rw [if_pos h, if_neg (by omega), if_pos (by omega), pairCell_N]
    · rw [if_neg h, if_pos (by omega), if_neg (by omega), pairCell_N]
  unfold f_X1_countHop f_X1_addToWay
  rw [e1, Option.bind_some]
  simp (disch := omega) only [ckN, clN]
  rw [if_neg (show ¬ (100 : Int32) < nI (h + 1) from nI_nlt (a := 100) (by omega) (by omega)), nI_1]
  rfl
theorem dl_nat {nd : Nat} {dl row : ar} (hK : LK nd dl row) {u v : Nat} (hu : u < 6) (hv : v < 6) (hb : nbr dl u v) : ∃ d : Nat, 1 ≤ d ∧ d ≤ 9 ∧ dl (6 * u + v) = nI d := by
  have h := hK.2.2.2.1 u v hu hv
  unfold nbr at hb
  exact ⟨(dl (6 * u + v)).toInt.toNat, by omega, by omega, idxN h.1⟩
theorem LK.ne {nd : Nat} {dl row : ar} (hK : LK nd dl row) {u v : Nat} (hu : u < 6) (hb : nbr dl u v) : u ≠ v := by
  intro e
  subst e
  have := hK.2.1 u hu
  unfold nbr at hb
  rw [this, i0] at hb
  omega
theorem LK.sym {nd : Nat} {dl row : ar} (hK : LK nd dl row) {u v : Nat} (hu : u < 6) (hv : v < 6) (hb : nbr dl u v) : nbr dl v u := by
  have huv := hK.ne hu hb
  unfold nbr at hb ⊢
  have q1 := hK.1 u v hu hv huv
  have q2 := hK.1 v u hv hu (fun e => huv e.symm)
  have q3 : pr v u = pr u v := by
    unfold pr
    by_cases h : v ≤ u
    · rw [if_neg (by omega), if_pos h]
    · rw [if_pos (by omega), if_neg h]
  rw [q3] at q2
  rw [q2, ← q1]
  exact hb
theorem letter_L {N nd life g : Nat} {re rh ra rf lt : Int32} {dl : ar} (hN : 7 ≤ N) (h0 : 0 < nd) (hn : nd ≤ 6) (hg : g < nd) (hl : life ≤ 99) : ∀ (n B h w u : Nat) (hp gs md ct xp wn : ar) (wz tm : Int32) (row : ar), RK nd B dl lt hp gs md ct xp wn wz tm row → wz = nI (h + 1) → row 1 = nI h → (∀ k, k ≤ h → wn k = row (2 + k)) → u < nd → (∃ v, v < 6 ∧ nbr dl u v) → h ≤ w → w ≤ life → 100 - h < n → B + (100 - h) < 2147483648 → ∃ r wz' tm' hp' gs' md' ct' xp' wn' row', f_X5_deliver_L24 (nI nd) re rh ra (nI life) rf dl (nI g) N n (nI u) (nI w) (nI h) wz tm hp gs md ct xp wn = some (.inl (r, wz', tm', hp', gs', md', ct', xp', wn')) ∧ f_X12_letter_L33 (nI nd) re rh ra (nI life) rf (nI g) N n (nI u) (nI w) row = some (r, row') ∧ RK nd (B + (100 - h)) dl lt hp' gs' md' ct' xp' wn' wz' tm' row' ∧ (r = -9 ∨ ∃ k : Nat, k < 2147483648 ∧ r = nI k) := by
  intro n
  induction n with
  | zero => intro B h w u hp gs md ct xp wn wz tm row hR a1 a2 a3 a4 a5 a6 a7 a8; omega
  | succ n ih =>
    intro B h w u hp gs md ct xp wn wz tm row hR a1 a2 a3 a4 a5 a6 a7 a8 a9
    have hK := hR.1
    have hG := hR.2.2.2.1
    have hct := (hR.2.2.2.2.1 u (by omega)).1
    have htm := hR.2.2.2.2.2.1.1
    have hh : h < 100 := by omega
    obtain ⟨v, hv1, hv2, hv3⟩ := chN_some (re := re) (ra := ra) (rf := rf) (gs := gs) (md := md) (ct := ct) (tm := tm) (g := g) hK (by omega) a5
    have huv := hK.ne (by omega) hv2
    obtain ⟨d, hd1, hd2, hd3⟩ := dl_nat hK (by omega) (by omega) hv2
    have hch := chooseC (re := re) (ra := ra) (rf := rf) (gs := gs) (md := md) (ct := ct) (xp := xp) (tm := tm) (g := g) (u := u) hN hn (by omega) (by omega) a5
    rw [hv3] at hch
    have hme := mendC (rh := rh) (ra := ra) (rf := rf) (dl := dl) (gs := gs) (md := md) (tm := tm + 1) (u := u) (g := g) (v := v) hN hn (by omega) (by omega) (by omega)
    have hho := hopsR (rh := rh) hK hG htm hct hN h0 hn (by omega) (by omega) (by omega) huv hv2 hv3
    have hco := countHop_N (hp := hp) (wn := wn) huv (show u < 6 by omega) (show v < 6 by omega) hh
    generalize hGv : mnd (gv ra rf gs md (tm + 1) (36 * u + 6 * g + v)) (64 * dl (6 * u + v) + told nd ra rf dl gs md (tm + 1) v g) rh = G at hme hho
    have hS := stepRK (e := xpl re (ct u + 1)) (G := G) (c := 36 * u + 6 * g + v) hR (by omega) a2 a3 hh (by omega) (by omega) huv (by omega)
    rw [f_X5_deliver_L24, f_X12_letter_L33]
    rw [if_neg (show ¬ (100 : Int32) ≤ nI h from nI_ge (a := h) (b := 100) (by omega) (by omega)), hch, Option.bind_some, hho, Option.bind_some]
    dsimp only
    have e9 : enc (some v) = nI v := rfl
    have en9 : ¬ nI v = -9 := by
      intro q
      have := negN (a := 9) (by omega) (by omega) v (by omega)
      exact (this ▸ q : False)
    rw [e9, if_neg en9, delayOf_N (show u < 6 by omega) (show v < 6 by omega), Option.bind_some, hme, Option.bind_some, a1, hco, Option.bind_some]
    dsimp only
    have hKh : LK nd dl (rowH row u v (36 * u + 6 * g + v) (if xpl re (ct u + 1) = true then 1 else 0) G) := by
      refine hK.rc2 (fun k q1 q2 => ?_)
      have hp6 := pr_lt (show u < 6 by omega) (show v < 6 by omega)
      unfold rowH
      simp (disch := omega) only [pk_un]
    rw [delayR_K hKh (show u < 6 by omega) (show v < 6 by omega), Option.bind_some]
    simp only [ck1, z1, pk_us]
    have hr1 : rowH row u v (36 * u + 6 * g + v) (if xpl re (ct u + 1) = true then 1 else 0) G 1 = nI h := by
      have hp6 := pr_lt (show u < 6 by omega) (show v < 6 by omega)
      unfold rowH
      simp (disch := omega) only [pk_un]
      exact a2
    have e2 : (2 : Int32) + nI (h + 1) = nI (2 + (h + 1)) := nI_add 2 _
    rw [hr1, nI_1, e2]
    simp (disch := omega) only [ckN, clN]
    have hwr : upd (upd (rowH row u v (36 * u + 6 * g + v) (if xpl re (ct u + 1) = true then 1 else 0) G) 1 (nI (h + 1))) (2 + (h + 1)) (nI v) = rowW row u v (36 * u + 6 * g + v) h (if xpl re (ct u + 1) = true then 1 else 0) G := rfl
    rw [hwr, hd3, nI_add]
    have hBm : ∀ {r' : ar} {a b c' d' e' f' : ar} {x y : Int32}, RK nd (B + 1) dl lt a b c' d' e' f' x y r' → RK nd (B + (100 - h)) dl lt a b c' d' e' f' x y r' := fun q => q.cong (by omega) (fun _ _ => rfl) (fun _ _ => rfl) (fun _ _ => rfl) (fun _ _ => rfl) (fun _ _ => rfl) (fun _ _ => rfl) (fun _ _ => rfl) (fun _ _ => rfl)
    by_cases hvg : nI v = nI g
    · rw [if_pos hvg, if_pos hvg]
      exact ⟨_, _, _, _, _, _, _, _, _, _, rfl, rfl, hBm hS, Or.inr ⟨w + d, by omega, rfl⟩⟩
    · rw [if_neg hvg, if_neg hvg]
      by_cases hwl : w + d ≤ life
      · rw [if_pos (nI_le hwl (by omega)), if_pos (nI_le hwl (by omega))]
        obtain ⟨q1, q2, q3, q4, q5, -⟩ := rowW_at (row := row) (u := u) (v := v) (c := 36 * u + 6 * g + v) (h := h) (j := if xpl re (ct u + 1) = true then 1 else 0) (G := G) (by omega) (by omega) (by omega) hh
        obtain ⟨r, wz', tm', hp', gs', md', ct', xp', wn', row', i1, i2, i3, i4⟩ := ih (B + 1) (h + 1) (w + d) v _ _ _ _ _ _ _ _ _ hS rfl q3 (fun k hk => by
          by_cases e1 : k = h + 1
          · subst e1; rw [q4, pk_us]
          · rw [pk_un e1, q5 k (by omega)]; exact a3 k (by omega)) hv1 ⟨u, by omega, hK.sym (by omega) (by omega) hv2⟩ (by omega) hwl (by omega) (by omega)
        refine ⟨r, wz', tm', hp', gs', md', ct', xp', wn', row', i1, i2, ?_, i4⟩
        rw [show B + (100 - h) = B + 1 + (100 - (h + 1)) by omega]
        exact i3
      · rw [if_neg (nI_ge (by omega) (by omega)), if_neg (nI_ge (by omega) (by omega))]
        exact ⟨_, _, _, _, _, _, _, _, _, _, rfl, rfl, hBm hS, Or.inl rfl⟩
/-- a letter, on both sides -/
theorem letter_K {N nd life g u B : Nat} {re rh ra rf lt : Int32} {dl hp gs md ct xp wn : ar} {wz tm : Int32} {row : ar} (hN : 102 ≤ N) (h0 : 0 < nd) (hn : nd ≤ 6) (hg : g < nd) (hu : u < nd) (hl : life ≤ 99) (hB : B + 100 < 2147483648) (hR : RK nd B dl lt hp gs md ct xp wn wz tm row) : ∃ r wz' tm' hp' gs' md' ct' xp' wn' row', f_X5_deliver N (nI nd) re rh ra (nI life) rf dl hp gs md ct xp wn tm (nI u) (nI g) = some (r, wz', tm', hp', gs', md', ct', xp', wn') ∧ f_X12_letter N (nI nd) re rh ra (nI life) rf row (nI u) (nI g) = some (r, row') ∧ RK nd (B + 100) dl lt hp' gs' md' ct' xp' wn' wz' tm' row' ∧ (r = -9 ∨ ∃ k : Nat, k < 2147483648 ∧ r = nI k) := by
  have ea : f_X1_addToWay wn 0 (nI u) = some (nI 1, upd wn 0 (nI u)) := by
    unfold f_X1_addToWay
    rw [if_neg (by decide)]
    exact ckN (a := 0) (by omega) (by omega)
  obtain ⟨h1, ⟨h2, h2b⟩, h3, h4, h5, ⟨h6, t, ht, h6b⟩, h7⟩ := hR
  generalize hr1 : upd (upd row 1 0) 2 (nI u) = row1
  have q : ∀ k, k ≠ 1 → k ≠ 2 → row1 k = row k := by
    intro k a b
    rw [← hr1]
    simp (disch := omega) only [pk_un]
  have q1 : row1 1 = nI 0 := by
    rw [← hr1]
    simp (disch := omega) only [pk_un, pk_us]
    rfl
  have q2 : row1 2 = nI u := by
    rw [← hr1]
    simp only [pk_us]
  have hcnt : cntF (lf row1) 36 0 = cntF (lf row) 36 0 := cnt_same _ _ _ _ (fun i _ h => by unfold lf; rw [q _ (by omega) (by omega)])
  have hR1 : RK nd B dl lt hp gs md ct xp (upd wn 0 (nI u)) (nI 1) tm row1 := by
    refine ⟨h1.rc2 (fun k _ _ => q k (by omega) (by omega)), ⟨by rw [hcnt]; exact h2, by rw [hcnt]; exact h2b⟩, fun a b hab hb => by rw [q _ (by omega) (by omega)]; exact h3 a b hab hb, h4.rc2 (fun k _ _ => q k (by omega) (by omega)), fun k hk => by rw [q _ (by omega) (by omega), q _ (by omega) (by omega)]; exact h5 k hk, ⟨by rw [q 0 (by omega) (by omega)]; exact h6, t, ht, h6b⟩, Or.inr ⟨0, by omega, rfl, q1, fun k hk => ?_⟩⟩
    have : k = 0 := by omega
    subst this
    rw [pk_us]
    exact q2.symm
  have hbest := bestR_K (N := N) (ra := ra) (rf := rf) (u := u) (d := g) hR1.1 hR1.2.2.2.1 hR1.2.2.2.2.2.1.1 (by omega) h0 hn (by omega) (by omega)
  unfold f_X5_deliver f_X12_letter
  rw [ea, Option.bind_some]
  simp only [ck1, ck2, z1, z2]
  rw [hr1, hbest, Option.bind_some]
  have e4 : nI 0 = 0 := rfl
  by_cases hb : ∃ v, v < 6 ∧ nbr dl u v
  · obtain ⟨v, hv1, hv2, hv3⟩ := bestN_some (ra := ra) (rf := rf) (gs := gs) (md := md) (tm := tm) (g := g) h1 (show u < 6 by omega) hb
    rw [hv3]
    have en9 : ¬ enc (some v) = -9 := by
      intro p
      have := negN (a := 9) (by omega) (by omega) v (by omega)
      exact (this ▸ p : False)
    rw [if_neg en9]
    obtain ⟨r, wz', tm', hp', gs', md', ct', xp', wn', row', i1, i2, i3, i4⟩ := letter_L (re := re) (rh := rh) (ra := ra) (rf := rf) (N := N) (by omega) h0 hn hg hl N B 0 0 u hp gs md ct xp (upd wn 0 (nI u)) (nI 1) tm row1 hR1 rfl q1 (fun k hk => by
      have : k = 0 := by omega
      subst this
      rw [pk_us]
      exact q2.symm) hu hb (by omega) (by omega) (by omega) (by omega)
    rw [e4] at i1 i2
    refine ⟨r, wz', tm', hp', gs', md', ct', xp', wn', row', ?_, i2, i3, i4⟩
    rw [i1]
    rfl
  · have hno : bestN nd ra rf dl gs md tm u g = none := by
      have hI := bsM_is (nbr dl u) (nbrD dl u) (fun v => (gv ra rf gs md tm (36 * u + 6 * g + v)).toInt) nd
      cases hc : bestN nd ra rf dl gs md tm u g with
      | none => rfl
      | some v =>
        unfold bestN at hc
        rw [hc] at hI
        exact absurd ⟨v, by have := hI.2.1; omega, hI.2.2.1⟩ hb
    rw [hno, if_pos (by rfl)]
    obtain ⟨m, rfl⟩ : ∃ m, N = m + 1 := ⟨N - 1, by omega⟩
    have hz : cntF (nbF dl u) 6 0 = 0 := by
      cases hq : cntF (nbF dl u) 6 0 with
      | zero => rfl
      | succ k =>
        obtain ⟨i, a, b, c⟩ := (cnt_pos (nbF dl u) 6 0).mp (by omega)
        exact absurd ⟨i, by omega, of_decide_eq_true (p := 0 < (dl (6 * u + i)).toInt) c⟩ hb
    rw [f_X5_deliver_L24, if_neg (by decide)]
    have hch : f_X5_chooseHop (m + 1) (nI nd) re ra rf dl gs md ct xp tm (nI u) (nI g) = some (-9, ct, xp) := by
      unfold f_X5_chooseHop
      rw [nbC_K (show u < 6 by omega) (by omega), Option.bind_some, hz, if_pos (by rfl)]
    rw [hch]
    refine ⟨-9, nI 1, tm, hp, gs, md, ct, xp, upd wn 0 (nI u), row1, rfl, rfl, ?_, Or.inl rfl⟩
    exact hR1.cong (by omega) (fun _ _ => rfl) (fun _ _ => rfl) (fun _ _ => rfl) (fun _ _ => rfl) (fun _ _ => rfl) (fun _ _ => rfl) (fun _ _ => rfl) (fun _ _ => rfl)
