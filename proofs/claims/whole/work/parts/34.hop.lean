/-! one hop, on both sides -/
theorem LK.rc2 {nd : Nat} {dl row row' : ar} (h : ∀ k, 118 ≤ k → k < 154 → row' k = row k) (hK : LK nd dl row) : LK nd dl row' := by
  obtain ⟨h1, h2, h3, h4, h5⟩ := hK
  refine ⟨fun u v hu hv e => ?_, h2, fun u v hu hv e => ?_, h4, h5⟩
  · rw [h _ (by omega) (by have := pr_lt hu hv; omega)]; exact h1 u v hu hv e
  · rw [h _ (by omega) (by omega)]; exact h3 u v hu hv e
theorem GD.rc2 {md gs row row' : ar} (h : ∀ k, 190 ≤ k → k < 622 → row' k = row k) (hG : GD md gs row) : GD md gs row' := by
  intro c hc
  rw [h (406 + c) (by omega) (by omega), h (190 + c) (by omega) (by omega)]
  exact hG c hc
def nbF (dl : ar) (u v : Nat) : Bool := decide (0 < (dl (6 * u + v)).toInt)
theorem nbC_L {dl : ar} {u : Nat} (hu : u < 6) : ∀ (n v a : Nat), v ≤ 6 → 6 - v < n → f_X3_neighboursOf_L4 dl (nI u) n (nI a) (nI v) = some (nI (a + cntF (nbF dl u) (6 - v) v)) := by
  intro n
  induction n with
  | zero => intro v a h1 h2; omega
  | succ n ih =>
    intro v a h1 h2
    rw [f_X3_neighboursOf_L4]
    by_cases hv : 6 ≤ v
    · have : v = 6 := by omega
      subst this
      rw [if_pos (by decide)]
      rfl
    · rw [if_neg (show ¬ (6 : Int32) ≤ nI v from nI_ge (a := v) (b := 6) (by omega) (by omega)), delayOf_N hu (by omega), Option.bind_some, nI_1, nI_1]
      have hc : cntF (nbF dl u) (6 - v) v = (if nbF dl u v = true then 1 else 0) + cntF (nbF dl u) (6 - (v + 1)) (v + 1) := by
        rw [show 6 - v = (6 - (v + 1)) + 1 by omega]
        rfl
      by_cases hf : 0 < (dl (6 * u + v)).toInt
      · rw [if_neg (show ¬ dl (6 * u + v) ≤ 0 from by rw [nle0]; exact fun q => q hf), ih (v + 1) (a + 1) (by omega) (by omega), hc, if_pos (show nbF dl u v = true from decide_eq_true hf)]
        congr 2; omega
      · rw [if_pos (show dl (6 * u + v) ≤ 0 from by rw [nle0]; exact hf), ih (v + 1) a (by omega) (by omega), hc, if_neg (show ¬ nbF dl u v = true from by unfold nbF; rw [decide_eq_false hf]; simp)]
        congr 2; omega
theorem nbC_K {dl : ar} {u N : Nat} (hu : u < 6) (hN : 7 ≤ N) : f_X3_neighboursOf N dl (nI u) = some (nI (cntF (nbF dl u) 6 0)) := by
  unfold f_X3_neighboursOf
  have := nbC_L (dl := dl) hu N 0 0 (by omega) (by omega)
  have e4 : nI 0 = 0 := rfl
  rw [e4] at this
  rw [this]
  simp
theorem cnt_pos (f : Nat → Bool) : ∀ n k, (0 < cntF f n k ↔ ∃ i, k ≤ i ∧ i < k + n ∧ f i = true) := by
  intro n
  induction n with
  | zero => intro k; simp only [cntF]; constructor
            · intro h; omega
            · rintro ⟨i, h1, h2, -⟩; omega
  | succ n ih =>
    intro k
    unfold cntF
    constructor
    · intro h
      by_cases hf : f k = true
      · exact ⟨k, by omega, by omega, hf⟩
      · rw [if_neg hf] at h
        obtain ⟨i, h1, h2, h3⟩ := (ih (k + 1)).mp (by omega)
        exact ⟨i, by omega, by omega, h3⟩
    · rintro ⟨i, h1, h2, h3⟩
      by_cases hf : f k = true
      · rw [if_pos hf]; omega
      · have : 0 < cntF f n (k + 1) := (ih (k + 1)).mpr ⟨i, by by_cases e : i = k; (subst e; exact absurd h3 hf); omega, by omega, h3⟩
        omega
/-- which neighbour a letter goes to -/
def xpl (re ce : Int32) : Bool := decide (¬ re ≤ 0 ∧ ce - ce / re * re = 0)
def chN (nd : Nat) (re ra rf : Int32) (dl gs md ct : ar) (tm : Int32) (u g : Nat) : Option Nat := if xpl re (ct u + 1) = true then eldN nd dl md u g else bestN nd ra rf dl gs md tm u g
theorem chooseC {N nd : Nat} {re ra rf : Int32} {dl gs md ct xp : ar} {tm : Int32} {u g : Nat} (hN : 7 ≤ N) (hn : nd ≤ 6) (hu : u < 6) (hg : g < 6) (hb : ∃ v, v < 6 ∧ nbr dl u v) : f_X5_chooseHop N (nI nd) re ra rf dl gs md ct xp tm (nI u) (nI g) = some (enc (chN nd re ra rf dl gs md ct tm u g), upd ct u (ct u + 1), if xpl re (ct u + 1) = true then upd xp u (xp u + 1) else xp) := by
  unfold f_X5_chooseHop
  rw [nbC_K hu hN, Option.bind_some]
  have hle := cnt_le (nbF dl u) 6 0
  have hp : 0 < cntF (nbF dl u) 6 0 := by
    obtain ⟨v, h1, h2⟩ := hb
    exact (cnt_pos _ _ _).mpr ⟨v, by omega, by omega, decide_eq_true h2⟩
  rw [if_neg (show ¬ nI (cntF (nbF dl u) 6 0) = 0 from nI_ne0 hp (by omega))]
  simp (disch := omega) only [ckN, clN, pk_us, bestC_K hN hn hu hg, eldC_K hN hn hu hg, Option.bind_some]
  unfold chN xpl
  by_cases he : re ≤ 0
  · rw [if_pos he, if_neg (by simp [he]), if_neg (by simp [he])]
  · rw [if_neg he]
    have hz : ¬ re = 0 := fun e => he (by rw [e]; decide)
    have hnz : nz re = true := decide_eq_true hz
    rw [hnz]
    by_cases hc : ct u + 1 - (ct u + 1) / re * re = 0
    · rw [if_pos (show decide (¬ re ≤ 0 ∧ ct u + 1 - (ct u + 1) / re * re = 0) = true from decide_eq_true ⟨he, hc⟩), if_pos (show decide (¬ re ≤ 0 ∧ ct u + 1 - (ct u + 1) / re * re = 0) = true from decide_eq_true ⟨he, hc⟩)]
      simp only [ck, if_pos hc]
    · rw [if_neg (show ¬ decide (¬ re ≤ 0 ∧ ct u + 1 - (ct u + 1) / re * re = 0) = true from fun q => hc (of_decide_eq_true q).2), if_neg (show ¬ decide (¬ re ≤ 0 ∧ ct u + 1 - (ct u + 1) / re * re = 0) = true from fun q => hc (of_decide_eq_true q).2)]
      simp only [ck, if_neg hc]
theorem chN_some {nd : Nat} {re ra rf : Int32} {dl gs md ct row : ar} {tm : Int32} {u g : Nat} (hK : LK nd dl row) (hu : u < 6) (hb : ∃ v, v < 6 ∧ nbr dl u v) : ∃ v, v < nd ∧ nbr dl u v ∧ chN nd re ra rf dl gs md ct tm u g = some v := by
  obtain ⟨w, hw, hnw⟩ := hb
  have hwd : w < nd := by
    by_cases h : w < nd
    · exact h
    · have := hK.2.2.2.2 u w hu hw (Or.inr (by omega))
      unfold nbr at hnw
      rw [this, i0] at hnw
      omega
  have key : ∀ (G : Nat → Int) (r : Option Nat), IsM (nbr dl u) G 0 nd r → ∃ v, v < nd ∧ nbr dl u v ∧ r = some v := by
    intro G r h
    cases r with
    | none => exact absurd hnw (h w (by omega) hwd)
    | some v => exact ⟨v, h.2.1, h.2.2.1, rfl⟩
  unfold chN
  split
  · exact key _ _ (bsM_is _ _ _ _)
  · exact key _ _ (bsM_is _ _ _ _)
theorem bestN_some {nd : Nat} {ra rf : Int32} {dl gs md row : ar} {tm : Int32} {u g : Nat} (hK : LK nd dl row) (hu : u < 6) (hb : ∃ v, v < 6 ∧ nbr dl u v) : ∃ v, v < nd ∧ nbr dl u v ∧ bestN nd ra rf dl gs md tm u g = some v := by
  have := chN_some (re := 0) (ra := ra) (rf := rf) (gs := gs) (md := md) (ct := fun _ => 0) (tm := tm) (g := g) hK hu hb
  unfold chN at this
  rw [if_neg (show ¬ xpl 0 (0 + 1) = true from by decide)] at this
  exact this
/-- what a neighbour tells -/
def told (nd : Nat) (ra rf : Int32) (dl gs md : ar) (tm : Int32) (v g : Nat) : Int32 := if v = g then 0 else match bestN nd ra rf dl gs md tm v g with
  | none => 0
  | some x => gv ra rf gs md tm (36 * v + 6 * g + x)
def mnd (old tl rh : Int32) : Int32 := if 63936 < old + ((tl - old) >>> (rh &&& 31)) then 63936 else old + ((tl - old) >>> (rh &&& 31))
theorem toldC {N nd : Nat} {ra rf : Int32} {dl gs md : ar} {tm : Int32} {v g : Nat} (hN : 7 ≤ N) (hn : nd ≤ 6) (hv : v < 6) (hg : g < 6) : f_X5_toldBy N (nI nd) ra rf dl gs md tm (nI v) (nI g) = some (told nd ra rf dl gs md tm v g) := by
  unfold f_X5_toldBy told
  by_cases e : v = g
  · subst e; simp
  · rw [if_neg (fun q => e ((nI_eq (by omega) (by omega)).mp q)), if_neg e, bestC_K hN hn hv hg, Option.bind_some]
    have hI := bsM_is (nbr dl v) (nbrD dl v) (fun w => (gv ra rf gs md tm (36 * v + 6 * g + w)).toInt) nd
    cases hb : bestN nd ra rf dl gs md tm v g with
    | none => rfl
    | some x =>
      have hx : x < nd := hI.lt x hb
      have e9 := enc_9 (r := some x) (fun y e => by cases e; omega)
      rw [if_neg (by rw [e9]; simp)]
      have : f_X5_guessBy ra rf gs md tm (nI v) (nI g) (enc (some x)) = some (gv ra rf gs md tm (36 * v + 6 * g + x)) := guessByC_K hv hg (by omega)
      rw [this]
      rfl
theorem mendC {N nd : Nat} {rh ra rf : Int32} {dl gs md : ar} {tm : Int32} {u g v : Nat} (hN : 7 ≤ N) (hn : nd ≤ 6) (hu : u < 6) (hg : g < 6) (hv : v < 6) : f_X5_mend N (nI nd) rh ra rf dl gs md tm (nI u) (nI g) (nI v) = some (upd gs (36 * u + 6 * g + v) (mnd (gv ra rf gs md tm (36 * u + 6 * g + v)) (64 * dl (6 * u + v) + told nd ra rf dl gs md tm v g) rh), upd md (36 * u + 6 * g + v) tm) := by
  unfold f_X5_mend
  rw [delayOf_N hu hv, Option.bind_some, toldC hN hn hv hg, Option.bind_some, guessCell_N, Option.bind_some]
  simp (disch := omega) only [guessAtC_K, Option.bind_some, ckN, clN]
  rfl
