/-! paths by best guesses -/
def pc (M : Nat) : Nat := M % 2 + M / 2 % 2 + M / 4 % 2 + M / 8 % 2 + M / 16 % 2 + M / 32 % 2
theorem bits : ∀ M, M < 64 → ∀ k, k < 6 → (nI M ||| ((1 : Int32) <<< (nI k &&& 31))) = nI (M ||| 2 ^ k) ∧ (((nI M &&& ((1 : Int32) <<< (nI k &&& 31))) = 0) ↔ Nat.testBit M k = false) ∧ ((((nI M >>> (nI k &&& 31)) &&& 1) = 1) ↔ Nat.testBit M k = true) ∧ (M ||| 2 ^ k) < 64 ∧ (Nat.testBit M k = false → pc (M ||| 2 ^ k) = pc M + 1) ∧ pc M ≤ 6 := by decide +kernel
theorem bit1 : ∀ k, k < 6 → ((1 : Int32) <<< (nI k &&& 31)) = nI (2 ^ k) ∧ (0 ||| ((1 : Int32) <<< (nI k &&& 31))) = nI (2 ^ k) ∧ 2 ^ k < 64 ∧ pc (2 ^ k) = 1 := by decide +kernel
theorem path_L {N nd g : Nat} {ra rf : Int32} {dl gs md row : ar} {tm : Int32} (hK : LK nd dl row) (hG : GD md gs row) (ht : tm = row 0) (hN : 7 ≤ N) (h0 : 0 < nd) (hn : nd ≤ 6) (hg : g < nd) : ∀ (n i h M : Nat) (X pz pd : Int32) (pn path : ar), i ≤ 5 → h < nd → M < 64 → (X ||| ((1 : Int32) <<< (nI h &&& 31))) = nI M → pc M = i + 1 → (∀ j, j < i → pn j = path j) → path i = nI h → 6 - i < n → ∃ b many pd' pn' path', f_X10_follow_L13 (nI nd) ra rf dl gs md tm (nI g) N n X (nI h) (nI i) pz pd pn = some (.inl (b, nI many, pd', pn')) ∧ lb (f_X12_laysPath_L24 (nI nd) ra rf row (nI g) N n (nI M) (nI h) (nI (i + 1)) pd path) (fun s24 => some (true, s24.1, s24.2.1, s24.2.2)) = some (b, nI many, pd', path') ∧ many ≤ 6 ∧ ∀ j, j < many → pn' j = path' j := by
  intro n
  induction n with
  | zero => intro i h M X pz pd pn path h1 h2 h3 h4 h5 h6 h7 h8; omega
  | succ n ih =>
    intro i h M X pz pd pn path h1 h2 h3 h4 h5 h6 h7 h8
    have hpn : ∀ j, j < i + 1 → upd pn i (nI h) j = path j := by
      intro j hj
      by_cases e : j = i
      · subst e; rw [pk_us]; exact h7.symm
      · rw [pk_un e]; exact h6 j (by omega)
    rw [f_X10_follow_L13, f_X12_laysPath_L24, if_neg (show ¬ (6 : Int32) ≤ nI i from nI_ge (a := i) (b := 6) (by omega) (by omega))]
    simp (disch := omega) only [ckN, clN, nI_1, h4]
    by_cases hhg : h = g
    · subst hhg
      rw [if_pos rfl, if_pos rfl]
      exact ⟨true, i + 1, pd, _, path, rfl, rfl, by omega, hpn⟩
    · have hne : ¬ nI h = nI g := fun q => hhg ((nI_eq (by omega) (by omega)).mp q)
      rw [if_neg hne, if_neg hne, bestC_K hN hn (by omega) (by omega), bestR_K hK hG ht hN h0 hn (by omega) (by omega), Option.bind_some, Option.bind_some]
      have hI := bsM_is (nbr dl h) (nbrD dl h) (fun v => (gv ra rf gs md tm (36 * h + 6 * g + v)).toInt) nd
      cases hb : bestN nd ra rf dl gs md tm h g with
      | none =>
        rw [if_pos (by rfl), if_pos (by rfl)]
        exact ⟨false, i + 1, pd, _, path, rfl, rfl, by omega, hpn⟩
      | some v =>
        have hv : v < nd := hI.lt v hb
        have en9 : ¬ enc (some v) = -9 := by
          intro p
          have := negN (a := 9) (by omega) (by omega) v (by omega)
          exact (this ▸ p : False)
        have e9 : enc (some v) = nI v := rfl
        rw [if_neg en9, if_neg en9, e9]
        obtain ⟨b1, b2, b3, b4, b5, b6⟩ := bits M h3 v (by omega)
        unfold f_X12_has
        by_cases hbit : Nat.testBit M v = true
        · rw [if_neg (fun q => by rw [b2.mp q] at hbit; cases hbit), if_pos (b3.mpr hbit), Option.bind_some, if_neg (show ¬ b2i true = 0 from by decide)]
          exact ⟨false, i + 1, pd, _, path, rfl, rfl, by omega, hpn⟩
        · have hbf : Nat.testBit M v = false := by cases hq : Nat.testBit M v; rfl; exact absurd hq hbit
          rw [if_pos (b2.mpr hbf), if_neg (fun q => hbit (b3.mp q)), Option.bind_some, if_pos (show b2i false = 0 from by decide), delayOf_N (by omega) (by omega), delayR_K hK (by omega) (by omega), Option.bind_some, Option.bind_some]
          have hpc := b5 hbf
          have hp6 : pc (M ||| 2 ^ v) ≤ 6 := (bits _ b4 0 (by omega)).2.2.2.2.2
          rw [ckN (show i + 1 < 6 by omega) (by omega), b1]
          exact ih (i + 1) v (M ||| 2 ^ v) (nI M) (nI (i + 1)) (pd + dl (6 * h + v)) (upd pn i (nI h)) (upd path (i + 1) (nI v)) (by omega) hv b4 b1 (by omega) (fun j hj => by rw [pk_un (show j ≠ i + 1 by omega)]; exact hpn j hj) pk_us (by omega)
theorem path_K {N nd g u : Nat} {ra rf : Int32} {dl gs md row : ar} {tm : Int32} (hK : LK nd dl row) (hG : GD md gs row) (ht : tm = row 0) (hN : 7 ≤ N) (h0 : 0 < nd) (hn : nd ≤ 6) (hg : g < nd) (hu : u < nd) (pn path : ar) (pz : Int32) : ∃ b many pd' pn' path', f_X10_follow N (nI nd) ra rf dl gs md tm pn pz (nI u) (nI g) = some (b, nI many, pd', pn') ∧ f_X12_laysPath N (nI nd) ra rf row path (nI u) (nI g) = some (b, nI many, pd', path') ∧ many ≤ 6 ∧ ∀ j, j < many → pn' j = path' j := by
  obtain ⟨a1, a2, a3, a4⟩ := bit1 u (by omega)
  obtain ⟨b, many, pd', pn', path', h1, h2, h3, h4⟩ := path_L (ra := ra) (rf := rf) hK hG ht hN h0 hn hg N 0 u (2 ^ u) 0 pz 0 pn (upd path 0 (nI u)) (by omega) hu a3 a2 a4 (fun j hj => by omega) pk_us (by omega)
  have e4 : nI 0 = 0 := rfl
  have e5 : nI 1 = 1 := rfl
  rw [e4] at h1
  have h2' := h2
  simp only [Nat.zero_add] at h2'
  rw [e5] at h2'
  refine ⟨b, many, pd', pn', path', ?_, ?_, h3, h4⟩
  · unfold f_X10_follow
    rw [h1]
    rfl
  · unfold f_X12_laysPath
    have ec : ∀ {α : Type} (x : Option α), ck (inb 0 6) x = x := fun x => ckN (a := 0) (by omega) (by omega)
    rw [ec, a1]
    exact h2'
theorem astray_L {N nd g : Nat} {ra rf : Int32} {dl gs md row : ar} {tm : Int32} (hK : LK nd dl row) (hG : GD md gs row) (ht : tm = row 0) (hN : 7 ≤ N) (h0 : 0 < nd) (hn : nd ≤ 6) (hg : g < nd) : ∀ (m u f q a : Nat) (pz pd : Int32) (pn : ar) (qz qd : Int32) (path : ar), u + m = nd → m < f → m < q → ∃ (s : Nat) (pz' pd' : Int32) (pn' : ar) (qz' qd' : Int32) (path' : ar), f_X11_astray_L14 (nI nd) ra rf dl gs md tm (nI g) N f (nI a) (nI u) pz pd pn = some (nI s, pz', pd', pn') ∧ f_X12_astray_L14 (nI nd) ra rf row (nI g) N q (nI a) (nI u) qz qd path = some (nI s, qz', qd', path') := by
  intro m
  induction m with
  | zero =>
    intro v f q a pz pd pn qz qd path h1 h2 h3
    obtain ⟨f, rfl⟩ : ∃ q, f = q + 1 := ⟨f - 1, by omega⟩
    obtain ⟨q, rfl⟩ : ∃ k, q = k + 1 := ⟨q - 1, by omega⟩
    rw [f_X11_astray_L14, f_X12_astray_L14, if_pos (nI_le (by omega) (by omega)), if_pos (nI_le (by omega) (by omega))]
    exact ⟨a, _, _, _, _, _, _, rfl, rfl⟩
  | succ m ih =>
    intro u f q a pz pd pn qz qd path h1 h2 h3
    obtain ⟨f, rfl⟩ : ∃ q, f = q + 1 := ⟨f - 1, by omega⟩
    obtain ⟨q, rfl⟩ : ∃ k, q = k + 1 := ⟨q - 1, by omega⟩
    have ez : nI a + 0 = nI a := nI_add a 0
    rw [f_X11_astray_L14, f_X12_astray_L14, if_neg (nI_ge (by omega) (by omega)), if_neg (nI_ge (by omega) (by omega)), nI_1, nI_1, ez]
    by_cases e : nI u = nI g
    · rw [if_pos e, if_pos e]
      exact ih (u + 1) f q a _ _ _ _ _ _ (by omega) (by omega) (by omega)
    · obtain ⟨b, many, pd', pn', path', p1, p2, -, -⟩ := path_K (ra := ra) (rf := rf) hK hG ht hN h0 hn hg (show u < nd by omega) pn path pz
      rw [if_neg e, if_neg e, p1, p2, Option.bind_some, Option.bind_some]
      dsimp only
      by_cases hb : b2i b = 0
      · rw [if_pos hb, if_pos hb]
        exact ih (u + 1) f q (a + 1) _ _ _ _ _ _ (by omega) (by omega) (by omega)
      · rw [if_neg hb, if_neg hb]
        exact ih (u + 1) f q a _ _ _ _ _ _ (by omega) (by omega) (by omega)
theorem right_v {N nd u : Nat} {ra rf : Int32} {dl gs md row sm far : ar} {tm sn : Int32} (hF : FM nd 999 sm far) (hK : LK nd dl row) (hG : GD md gs row) (ht : tm = row 0) (hN : 7 ≤ N) (h0 : 0 < nd) (hn : nd ≤ 6) (hu : u < nd) : ∀ (m g f q a : Nat) (pz pd : Int32) (pn : ar) (qz qd : Int32) (path : ar), g + m = nd → m < f → m < q → ∃ (s : Nat) (pz' pd' : Int32) (pn' : ar) (qz' qd' : Int32) (path' : ar), f_X11_right_L39 (nI nd) ra rf dl gs md tm N (sn, sm) (nI u) f (nI a) (nI g) pz pd pn = some (nI s, pz', pd', pn') ∧ f_X12_right_L20 (nI nd) ra rf row N far (nI u) q (nI a) (nI g) qz qd path = some (nI s, qz', qd', path') := by
  intro m
  induction m with
  | zero =>
    intro v f q a pz pd pn qz qd path h1 h2 h3
    obtain ⟨f, rfl⟩ : ∃ q, f = q + 1 := ⟨f - 1, by omega⟩
    obtain ⟨q, rfl⟩ : ∃ k, q = k + 1 := ⟨q - 1, by omega⟩
    rw [f_X11_right_L39, f_X12_right_L20, if_pos (nI_le (by omega) (by omega)), if_pos (nI_le (by omega) (by omega))]
    exact ⟨a, _, _, _, _, _, _, rfl, rfl⟩
  | succ m ih =>
    intro g f q a pz pd pn qz qd path h1 h2 h3
    obtain ⟨f, rfl⟩ : ∃ q, f = q + 1 := ⟨f - 1, by omega⟩
    obtain ⟨q, rfl⟩ : ∃ k, q = k + 1 := ⟨q - 1, by omega⟩
    have ez : nI a + 0 = nI a := nI_add a 0
    rw [f_X11_right_L39, f_X12_right_L20, if_neg (nI_ge (by omega) (by omega)), if_neg (nI_ge (by omega) (by omega)), nI_1, nI_1, ez]
    by_cases e : nI u = nI g
    · rw [if_pos e, if_pos e]
      exact ih (g + 1) f q a _ _ _ _ _ _ (by omega) (by omega) (by omega)
    · obtain ⟨b, many, pd', pn', path', p1, p2, -, -⟩ := path_K (ra := ra) (rf := rf) hK hG ht hN h0 hn (show g < nd by omega) hu pn path pz
      rw [if_neg e, if_neg e, p1, p2, Option.bind_some, Option.bind_some]
      dsimp only
      by_cases hb : b2i b = 0
      · rw [if_pos hb, if_pos hb]
        exact ih (g + 1) f q a _ _ _ _ _ _ (by omega) (by omega) (by omega)
      · obtain ⟨r, b1, b2, -⟩ := between_K hF hn hu (show g < nd by omega)
        rw [if_neg hb, if_neg hb, b1, b2, Option.bind_some, Option.bind_some]
        by_cases hr : pd' = r
        · rw [if_pos hr, if_pos hr]
          exact ih (g + 1) f q (a + 1) _ _ _ _ _ _ (by omega) (by omega) (by omega)
        · rw [if_neg hr, if_neg hr]
          exact ih (g + 1) f q a _ _ _ _ _ _ (by omega) (by omega) (by omega)
theorem right_u {N nd : Nat} {ra rf : Int32} {dl gs md row sm far : ar} {tm sn : Int32} (hF : FM nd 999 sm far) (hK : LK nd dl row) (hG : GD md gs row) (ht : tm = row 0) (hN : 7 ≤ N) (h0 : 0 < nd) (hn : nd ≤ 6) : ∀ (m u f q a : Nat) (pz pd : Int32) (pn : ar) (qz qd : Int32) (path : ar), u + m = nd → m < f → m < q → ∃ (s : Nat) (pz' pd' : Int32) (pn' : ar) (qz' qd' : Int32) (path' : ar), f_X11_right_L26 (nI nd) ra rf dl gs md tm N (sn, sm) f (nI a) (nI u) pz pd pn = some (nI s, pz', pd', pn') ∧ f_X12_right_L10 (nI nd) ra rf row N far q (nI a) (nI u) qz qd path = some (nI s, qz', qd', path') := by
  intro m
  induction m with
  | zero =>
    intro v f q a pz pd pn qz qd path h1 h2 h3
    obtain ⟨f, rfl⟩ : ∃ q, f = q + 1 := ⟨f - 1, by omega⟩
    obtain ⟨q, rfl⟩ : ∃ k, q = k + 1 := ⟨q - 1, by omega⟩
    rw [f_X11_right_L26, f_X12_right_L10, if_pos (nI_le (by omega) (by omega)), if_pos (nI_le (by omega) (by omega))]
    exact ⟨a, _, _, _, _, _, _, rfl, rfl⟩
  | succ m ih =>
    intro u f q a pz pd pn qz qd path h1 h2 h3
    obtain ⟨f, rfl⟩ : ∃ q, f = q + 1 := ⟨f - 1, by omega⟩
    obtain ⟨q, rfl⟩ : ∃ k, q = k + 1 := ⟨q - 1, by omega⟩
    rw [f_X11_right_L26, f_X12_right_L10, if_neg (nI_ge (by omega) (by omega)), if_neg (nI_ge (by omega) (by omega)), nI_1]
    obtain ⟨s, pz', pd', pn', qz', qd', path', p1, p2⟩ := right_v (ra := ra) (rf := rf) (sn := sn) hF hK hG ht hN h0 hn (show u < nd by omega) nd 0 N N a pz pd pn qz qd path (by omega) (by omega) (by omega)
    have e4 : nI 0 = 0 := rfl
    rw [e4] at p1 p2
    rw [p1, p2, Option.bind_some, Option.bind_some]
    exact ih (u + 1) f q s _ _ _ _ _ _ (by omega) (by omega) (by omega)
