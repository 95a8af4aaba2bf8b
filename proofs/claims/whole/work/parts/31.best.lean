/-! guesses and the best of them, on both sides -/
def LK (nd : Nat) (dl row : ar) : Prop := (∀ u v, u < 6 → v < 6 → u ≠ v → dl (6 * u + v) = row (118 + pr u v)) ∧ (∀ u, u < 6 → dl (6 * u + u) = 0) ∧ (∀ u v, u < 6 → v < 6 → v ≤ u → row (118 + (6 * u + v)) = 0) ∧ (∀ u v, u < 6 → v < 6 → 0 ≤ (dl (6 * u + v)).toInt ∧ (dl (6 * u + v)).toInt ≤ 9) ∧ (∀ u v, u < 6 → v < 6 → nd ≤ u ∨ nd ≤ v → dl (6 * u + v) = 0)
def GD (md gs row : ar) : Prop := ∀ c, c < 216 → (md c = 0 ∧ row (406 + c) = -1) ∨ (md c = row (406 + c) ∧ 1 ≤ (md c).toInt ∧ gs c = row (190 + c))
def gv (ra rf : Int32) (gs md : ar) (tm : Int32) (c : Nat) : Int32 := if md c = 0 then 64 * rf else if tm - md c ≤ ra then gs c else 64 * rf
theorem delayR_K {nd : Nat} {dl row : ar} (h : LK nd dl row) {u v : Nat} (hu : u < 6) (hv : v < 6) : f_X12_delay row (nI u) (nI v) = some (dl (6 * u + v)) := by
  rw [delay_N hu hv]
  by_cases e : u = v
  · subst e; simp [h.2.1 u hu]
  · simp [e, h.1 u v hu hv e]
theorem guessAtC_K {ra rf : Int32} {gs md : ar} {tm : Int32} {c : Nat} (hc : c < 216) : f_X5_guessAt ra rf gs md tm (nI c) = some (gv ra rf gs md tm c) := by
  simp (disch := omega) only [f_X5_guessAt, ckN, clN, gv]
  split
  · rfl
  · split <;> rfl
theorem guessByC_K {ra rf : Int32} {gs md : ar} {tm : Int32} {u d v : Nat} (hu : u < 6) (hd : d < 6) (hv : v < 6) : f_X5_guessBy ra rf gs md tm (nI u) (nI d) (nI v) = some (gv ra rf gs md tm (36 * u + 6 * d + v)) := by
  simp only [f_X5_guessBy, guessCell_N, Option.bind_some, guessAtC_K (show 36 * u + 6 * d + v < 216 by omega)]
theorem guessR_K {ra rf : Int32} {gs md row : ar} {tm : Int32} (h : GD md gs row) (ht : tm = row 0) {u d v : Nat} (hu : u < 6) (hd : d < 6) (hv : v < 6) : f_X12_guessNow ra rf row (nI u) (nI d) (nI v) = some (gv ra rf gs md tm (36 * u + 6 * d + v)) := by
  have hc : 36 * u + 6 * d + v < 216 := by omega
  have hg := h _ hc
  have e0 : ((0 : Int32)).toNatClampNeg = 0 := rfl
  have i0 : ck (inb 0 622) = (fun x => x : Option Int32 → Option Int32) := by
    funext x; exact ckN (a := 0) (by omega) (by omega)
  unfold f_X12_guessNow
  rw [guessAt_N, Option.bind_some]
  have e1 : (406 : Int32) + nI (36 * u + 6 * d + v) = nI (406 + (36 * u + 6 * d + v)) := nI_add 406 _
  have e2 : (190 : Int32) + nI (36 * u + 6 * d + v) = nI (190 + (36 * u + 6 * d + v)) := nI_add 190 _
  rw [e1, e2]
  simp (disch := omega) only [ckN, clN, i0, e0, ← ht]
  generalize 36 * u + 6 * d + v = c at hc hg ⊢
  unfold gv
  rcases hg with ⟨g1, g2⟩ | ⟨g1, g2, g3⟩
  · rw [g1, g2]
    rfl
  · have hn : ¬ row (406 + c) < 0 := by
      rw [← g1, Int32.lt_iff_toInt_lt]
      have : (0 : Int32).toInt = 0 := rfl
      omega
    have hz : ¬ md c = 0 := by
      intro e
      rw [e] at g2
      have : (0 : Int32).toInt = 0 := rfl
      omega
    rw [if_neg hn, if_neg hz, ← g1, ← g3]
    split <;> rfl
def bsM (P : Nat → Prop) (dP : ∀ v, Decidable (P v)) (G : Nat → Int) : Nat → Option Nat
  | 0 => none
  | n + 1 => match dP n with
    | .isTrue _ => match bsM P dP G n with
      | none => some n
      | some x => if G x ≤ G n then some x else some n
    | .isFalse _ => bsM P dP G n
theorem bsM_is (P : Nat → Prop) (dP : ∀ v, Decidable (P v)) (G : Nat → Int) (n : Nat) : IsM P G 0 n (bsM P dP G n) := by
  induction n with
  | zero => intro v h1 h2; omega
  | succ n ih =>
    have h := ih.up
    unfold bsM
    cases dP n with
    | isTrue hp =>
      have h2 := h.2 hp
      cases hb : bsM P dP G n with
      | none => exact h2.1 hb
      | some x =>
        have h3 := h2.2 x hb
        rw [hb] at h3
        dsimp only
        split
        · rename_i hg; exact h3.1 hg
        · rename_i hg; exact h3.2 hg
    | isFalse hp => exact h.1 hp
theorem IsM.lt {P : Nat → Prop} {G : Nat → Int} {lo hi : Nat} {r : Option Nat} (h : IsM P G lo hi r) (x : Nat) (e : r = some x) : x < hi := by
  subst e; exact h.2.1
/-- the neighbours of a node -/
def nbr (dl : ar) (u : Nat) : Nat → Prop := fun v => 0 < (dl (6 * u + v)).toInt
def nbrD (dl : ar) (u : Nat) : ∀ v, Decidable (nbr dl u v) := fun v => inferInstanceAs (Decidable (0 < (dl (6 * u + v)).toInt))
def bestN (nd : Nat) (ra rf : Int32) (dl gs md : ar) (tm : Int32) (u d : Nat) : Option Nat := bsM (nbr dl u) (nbrD dl u) (fun v => (gv ra rf gs md tm (36 * u + 6 * d + v)).toInt) nd
def eldN (nd : Nat) (dl md : ar) (u d : Nat) : Option Nat := bsM (nbr dl u) (nbrD dl u) (fun v => (md (36 * u + 6 * d + v)).toInt) nd
theorem i0 : (0 : Int32).toInt = 0 := rfl
theorem nle0 {x : Int32} : (x ≤ 0) = ¬ (0 < x.toInt) := by
  apply propext
  rw [Int32.le_iff_toInt_le, i0]
  omega
theorem bestC_L {nd : Nat} {ra rf : Int32} {dl gs md : ar} {tm : Int32} {u d : Nat} (hn : nd ≤ 6) (hu : u < 6) (hd : d < 6) : ∀ (n v : Nat) (r : Option Nat) (lw : Int32), v ≤ nd → nd - v < n → IsM (nbr dl u) (fun v => (gv ra rf gs md tm (36 * u + 6 * d + v)).toInt) 0 v r → (∀ x, r = some x → lw = gv ra rf gs md tm (36 * u + 6 * d + x)) → f_X5_bestOf_L24 (nI nd) ra rf dl gs md tm (nI (6 * u + 0)) (nI (36 * u + 6 * d + 0)) n (enc r) lw (nI v) = some (enc (bestN nd ra rf dl gs md tm u d)) := by
  intro n
  induction n with
  | zero => intro v r lw h1 h2; omega
  | succ n ih =>
    intro v r lw h1 h2 hI hl
    have e9 := enc_9 (r := r) (fun x e => by have := hI.lt x e; omega)
    rw [f_X5_bestOf_L24]
    by_cases hv : nd ≤ v
    · have : v = nd := by omega
      subst this
      rw [if_pos (by rw [leN (by omega) (by omega)]; omega)]
      rw [hI.uniq (bsM_is _ (nbrD dl u) _ _)]
      rfl
    · rw [if_neg (by rw [leN (by omega) (by omega)]; omega)]
      have hI2 := hI.up
      simp (disch := omega) only [nI_add, ckN, clN, Nat.add_zero, guessAtC_K, Option.bind_some, nle0, nI_1]
      by_cases hp : nbr dl u v
      · rw [if_neg (show ¬ ¬ 0 < (dl (6 * u + v)).toInt from fun q => q hp)]
        have hI3 := hI2.2 hp
        cases r with
        | none =>
          rw [if_pos (by rfl)]
          have := ih (v + 1) (some v) (gv ra rf gs md tm (36 * u + 6 * d + v)) (by omega) (by omega) (hI3.1 rfl) (fun x e => by cases e; rfl)
          simp only [Nat.add_zero] at this
          exact this
        | some x =>
          rw [if_neg (by rw [e9]; simp)]
          have hlx := hl x rfl
          have hI4 := hI3.2 x rfl
          by_cases hg : lw ≤ gv ra rf gs md tm (36 * u + 6 * d + v)
          · rw [if_pos hg]
            have := ih (v + 1) (some x) lw (by omega) (by omega) (hI4.1 (by rw [← hlx]; exact Int32.le_iff_toInt_le.mp hg)) hl
            simp only [Nat.add_zero] at this
            exact this
          · rw [if_neg hg]
            have := ih (v + 1) (some v) (gv ra rf gs md tm (36 * u + 6 * d + v)) (by omega) (by omega) (hI4.2 (by rw [← hlx]; exact fun q => hg (Int32.le_iff_toInt_le.mpr q))) (fun x e => by cases e; rfl)
            simp only [Nat.add_zero] at this
            exact this
      · rw [if_pos (show ¬ 0 < (dl (6 * u + v)).toInt from hp)]
        have := ih (v + 1) r lw (by omega) (by omega) (hI2.1 hp) hl
        simp only [Nat.add_zero] at this
        exact this
theorem bestC_K {N nd : Nat} {ra rf : Int32} {dl gs md : ar} {tm : Int32} {u d : Nat} (hN : 7 ≤ N) (hn : nd ≤ 6) (hu : u < 6) (hd : d < 6) : f_X5_bestOf N (nI nd) ra rf dl gs md tm (nI u) (nI d) = some (enc (bestN nd ra rf dl gs md tm u d)) := by
  unfold f_X5_bestOf
  have e1 : f_X11_pairCell (nI u) 0 = some (nI (6 * u + 0)) := pairCell_N u 0
  have e2 : f_X11_guessCell (nI u) (nI d) 0 = some (nI (36 * u + 6 * d + 0)) := guessCell_N u d 0
  rw [e1, Option.bind_some, e2, Option.bind_some]
  have := bestC_L (ra := ra) (rf := rf) (dl := dl) (gs := gs) (md := md) (tm := tm) hn hu hd N 0 none 0 (by omega) (by omega) (fun v _ h => by omega) (fun x e => by cases e)
  have e3 : enc none = -9 := rfl
  have e4 : nI 0 = 0 := rfl
  rw [e3, e4] at this
  rw [this]
  rfl
theorem nltz (k : Nat) (hk : k < 2147483648) : (nI k < 0) = False := lt0N k hk
theorem m1lt : (nI 0 + (-1) < 0) = True := by decide
theorem bestR_L {nd : Nat} {ra rf : Int32} {dl gs md row : ar} {tm : Int32} {u d : Nat} (hK : LK nd dl row) (hG : GD md gs row) (ht : tm = row 0) (hn : nd ≤ 6) (hu : u < 6) (hd : d < 6) : ∀ (n k : Nat) (r : Option Nat), k ≤ nd → k < n → IsM (nbr dl u) (fun v => (gv ra rf gs md tm (36 * u + 6 * d + v)).toInt) k nd r → f_X12_bestOf_L11 ra rf row (nI u) (nI d) n (enc r) (nI k + (-1)) = some (enc (bestN nd ra rf dl gs md tm u d)) := by
  intro n
  induction n with
  | zero => intro k r h1 h2; omega
  | succ n ih =>
    intro k r h1 h2 hI
    have e9 := enc_9 (r := r) (fun x e => by have := hI.lt x e; omega)
    rw [f_X12_bestOf_L11]
    cases k with
    | zero =>
      simp only [m1lt, if_true]
      rw [hI.uniq (bsM_is _ (nbrD dl u) _ _)]
      rfl
    | succ v =>
      rw [pk_m1, if_neg (nI_pos (by omega))]
      rw [delayR_K hK hu (by omega), Option.bind_some]
      have hI2 := hI.down (by omega)
      by_cases hp : nbr dl u v
      · rw [if_neg (show ¬ dl (6 * u + v) ≤ 0 from by rw [nle0]; exact fun q => q hp)]
        have hI3 := hI2.2 hp
        cases r with
        | none =>
          rw [if_pos (by rfl)]
          exact ih v (some v) (by omega) (by omega) (hI3.1 rfl)
        | some x =>
          rw [if_neg (by rw [e9]; simp)]
          have hx := hI.lt x rfl
          have hI4 := hI3.2 x rfl
          rw [guessR_K hG ht hu hd (by omega), Option.bind_some]
          have e5 : f_X12_guessNow ra rf row (nI u) (nI d) (enc (some x)) = some (gv ra rf gs md tm (36 * u + 6 * d + x)) := guessR_K hG ht hu hd (by omega)
          rw [e5, Option.bind_some]
          by_cases hg : gv ra rf gs md tm (36 * u + 6 * d + x) < gv ra rf gs md tm (36 * u + 6 * d + v)
          · rw [if_pos hg]
            exact ih v (some x) (by omega) (by omega) (hI4.1 (Int32.lt_iff_toInt_lt.mp hg))
          · rw [if_neg hg]
            exact ih v (some v) (by omega) (by omega) (hI4.2 (fun q => hg (Int32.lt_iff_toInt_lt.mpr q)))
      · rw [if_pos (show dl (6 * u + v) ≤ 0 from by rw [nle0]; exact hp)]
        exact ih v r (by omega) (by omega) (hI2.1 hp)
theorem m1N {n : Nat} (h : 0 < n) : nI n - 1 = nI n + (-1) := by
  obtain ⟨k, rfl⟩ : ∃ k, n = k + 1 := ⟨n - 1, by omega⟩
  rw [nI_pred, pk_m1]
theorem bestR_K {N nd : Nat} {ra rf : Int32} {dl gs md row : ar} {tm : Int32} {u d : Nat} (hK : LK nd dl row) (hG : GD md gs row) (ht : tm = row 0) (hN : 7 ≤ N) (h0 : 0 < nd) (hn : nd ≤ 6) (hu : u < 6) (hd : d < 6) : f_X12_bestOf N (nI nd) ra rf row (nI u) (nI d) = some (enc (bestN nd ra rf dl gs md tm u d)) := by
  unfold f_X12_bestOf
  rw [m1N h0]
  have := bestR_L (ra := ra) (rf := rf) hK hG ht hn hu hd N nd none (by omega) (by omega) (fun v h1 h2 => by omega)
  have e3 : enc none = -9 := rfl
  rw [e3] at this
  rw [this]
  rfl
theorem eldC_L {nd : Nat} {dl md : ar} {u d : Nat} (hn : nd ≤ 6) (hu : u < 6) (hd : d < 6) : ∀ (n v : Nat) (r : Option Nat) (lw : Int32), v ≤ nd → nd - v < n → IsM (nbr dl u) (fun v => (md (36 * u + 6 * d + v)).toInt) 0 v r → (∀ x, r = some x → lw = md (36 * u + 6 * d + x)) → f_X5_stalestOf_L24 (nI nd) dl md (nI (6 * u + 0)) (nI (36 * u + 6 * d + 0)) n (enc r) lw (nI v) = some (enc (eldN nd dl md u d)) := by
  intro n
  induction n with
  | zero => intro v r lw h1 h2; omega
  | succ n ih =>
    intro v r lw h1 h2 hI hl
    have e9 := enc_9 (r := r) (fun x e => by have := hI.lt x e; omega)
    rw [f_X5_stalestOf_L24]
    by_cases hv : nd ≤ v
    · have : v = nd := by omega
      subst this
      rw [if_pos (by rw [leN (by omega) (by omega)]; omega)]
      rw [hI.uniq (bsM_is _ (nbrD dl u) _ _)]
      rfl
    · rw [if_neg (by rw [leN (by omega) (by omega)]; omega)]
      have hI2 := hI.up
      simp (disch := omega) only [nI_add, ckN, clN, Nat.add_zero, nle0, nI_1]
      by_cases hp : nbr dl u v
      · rw [if_neg (show ¬ ¬ 0 < (dl (6 * u + v)).toInt from fun q => q hp)]
        have hI3 := hI2.2 hp
        cases r with
        | none =>
          rw [if_pos (by rfl)]
          have := ih (v + 1) (some v) (md (36 * u + 6 * d + v)) (by omega) (by omega) (hI3.1 rfl) (fun x e => by cases e; rfl)
          simp only [Nat.add_zero] at this
          exact this
        | some x =>
          rw [if_neg (by rw [e9]; simp)]
          have hlx := hl x rfl
          have hI4 := hI3.2 x rfl
          by_cases hg : lw ≤ md (36 * u + 6 * d + v)
          · rw [if_pos hg]
            have := ih (v + 1) (some x) lw (by omega) (by omega) (hI4.1 (by rw [← hlx]; exact Int32.le_iff_toInt_le.mp hg)) hl
            simp only [Nat.add_zero] at this
            exact this
          · rw [if_neg hg]
            have := ih (v + 1) (some v) (md (36 * u + 6 * d + v)) (by omega) (by omega) (hI4.2 (by rw [← hlx]; exact fun q => hg (Int32.le_iff_toInt_le.mpr q))) (fun x e => by cases e; rfl)
            simp only [Nat.add_zero] at this
            exact this
      · rw [if_pos (show ¬ 0 < (dl (6 * u + v)).toInt from hp)]
        have := ih (v + 1) r lw (by omega) (by omega) (hI2.1 hp) hl
        simp only [Nat.add_zero] at this
        exact this
theorem eldC_K {N nd : Nat} {dl md : ar} {u d : Nat} (hN : 7 ≤ N) (hn : nd ≤ 6) (hu : u < 6) (hd : d < 6) : f_X5_stalestOf N (nI nd) dl md (nI u) (nI d) = some (enc (eldN nd dl md u d)) := by
  unfold f_X5_stalestOf
  have e1 : f_X11_pairCell (nI u) 0 = some (nI (6 * u + 0)) := pairCell_N u 0
  have e2 : f_X11_guessCell (nI u) (nI d) 0 = some (nI (36 * u + 6 * d + 0)) := guessCell_N u d 0
  rw [e1, Option.bind_some, e2, Option.bind_some]
  have := eldC_L (dl := dl) (md := md) hn hu hd N 0 none 0 (by omega) (by omega) (fun v _ h => by omega) (fun x e => by cases e)
  have e3 : enc none = -9 := rfl
  have e4 : nI 0 = 0 := rfl
  rw [e3, e4] at this
  rw [this]
  rfl
/-- the order of the times is the same on both sides -/
theorem GD.ord {md gs row : ar} (h : GD md gs row) {a b : Nat} (ha : a < 216) (hb : b < 216) : (md a).toInt ≤ (md b).toInt ↔ (row (406 + a)).toInt ≤ (row (406 + b)).toInt := by
  have em : (-1 : Int32).toInt = -1 := rfl
  rcases h a ha with ⟨a1, a2⟩ | ⟨a1, a2, -⟩ <;> rcases h b hb with ⟨b1, b2⟩ | ⟨b1, b2, -⟩
  · rw [a1, b1, a2, b2, i0, em]; omega
  · rw [a1, a2, ← b1, i0, em]; omega
  · rw [b1, b2, ← a1, i0, em]; omega
  · rw [← a1, ← b1]
theorem eldR_L {nd : Nat} {dl gs md row : ar} {u d : Nat} (hK : LK nd dl row) (hG : GD md gs row) (hn : nd ≤ 6) (hu : u < 6) (hd : d < 6) : ∀ (n k : Nat) (r : Option Nat), k ≤ nd → k < n → IsM (nbr dl u) (fun v => (row (406 + (36 * u + 6 * d + v))).toInt) k nd r → f_X12_eldestOf_L11 row (nI u) (nI d) n (enc r) (nI k + (-1)) = some (enc (eldN nd dl md u d)) := by
  intro n
  induction n with
  | zero => intro k r h1 h2; omega
  | succ n ih =>
    intro k r h1 h2 hI
    have e9 := enc_9 (r := r) (fun x e => by have := hI.lt x e; omega)
    rw [f_X12_eldestOf_L11]
    cases k with
    | zero =>
      simp only [m1lt, if_true]
      have h3 : IsM (nbr dl u) (fun v => (md (36 * u + 6 * d + v)).toInt) 0 nd r := hI.order (fun v w _ _ _ h5 _ h6 => (hG.ord (by omega) (by omega)).symm)
      rw [h3.uniq (bsM_is _ (nbrD dl u) _ _)]
      rfl
    | succ v =>
      rw [pk_m1, if_neg (nI_pos (by omega))]
      rw [delayR_K hK hu (by omega), Option.bind_some]
      have hI2 := hI.down (by omega)
      by_cases hp : nbr dl u v
      · rw [if_neg (show ¬ dl (6 * u + v) ≤ 0 from by rw [nle0]; exact fun q => q hp)]
        have hI3 := hI2.2 hp
        cases r with
        | none =>
          rw [if_pos (by rfl)]
          exact ih v (some v) (by omega) (by omega) (hI3.1 rfl)
        | some x =>
          rw [if_neg (by rw [e9]; simp)]
          have hx := hI.lt x rfl
          have hI4 := hI3.2 x rfl
          have e5 : f_X12_guessAt (nI u) (nI d) (enc (some x)) = some (nI (36 * u + 6 * d + x)) := guessAt_N u d x
          have e6 : ∀ c : Nat, (406 : Int32) + nI c = nI (406 + c) := fun c => nI_add 406 c
          rw [guessAt_N, Option.bind_some, e5, Option.bind_some]
          simp (disch := omega) only [e6, ckN, clN]
          by_cases hg : row (406 + (36 * u + 6 * d + x)) < row (406 + (36 * u + 6 * d + v))
          · rw [if_pos hg]
            exact ih v (some x) (by omega) (by omega) (hI4.1 (Int32.lt_iff_toInt_lt.mp hg))
          · rw [if_neg hg]
            exact ih v (some v) (by omega) (by omega) (hI4.2 (fun q => hg (Int32.lt_iff_toInt_lt.mpr q)))
      · rw [if_pos (show dl (6 * u + v) ≤ 0 from by rw [nle0]; exact hp)]
        exact ih v r (by omega) (by omega) (hI2.1 hp)
theorem eldR_K {N nd : Nat} {dl gs md row : ar} {u d : Nat} (hK : LK nd dl row) (hG : GD md gs row) (hN : 7 ≤ N) (h0 : 0 < nd) (hn : nd ≤ 6) (hu : u < 6) (hd : d < 6) : f_X12_eldestOf N (nI nd) row (nI u) (nI d) = some (enc (eldN nd dl md u d)) := by
  unfold f_X12_eldestOf
  rw [m1N h0]
  have := eldR_L (u := u) (d := d) hK hG hn hu hd N nd none (by omega) (by omega) (fun v h1 h2 => by omega)
  have e3 : enc none = -9 := rfl
  rw [e3] at this
  rw [this]
  rfl
