/-! what is known, on both sides -/
def WY (wn : ar) (wz : Int32) (row : ar) : Prop := (wz = 0 ∧ row 1 = -1) ∨ ∃ h : Nat, h ≤ 100 ∧ wz = nI (h + 1) ∧ row 1 = nI h ∧ ∀ k, k ≤ h → wn k = row (2 + k)
def RK (nd B : Nat) (dl : ar) (lt : Int32) (hp gs md ct xp wn : ar) (wz tm : Int32) (row : ar) : Prop :=
  LK nd dl row ∧ (lt = nI (cntF (lf row) 36 0) ∧ cntF (lf row) 36 0 ≤ 10) ∧ (∀ u v, u < v → v < 6 → hp (6 * u + v) = row (154 + (6 * u + v))) ∧ GD md gs row ∧ (∀ u, u < 6 → ct u = row (106 + u) ∧ xp u = row (112 + u)) ∧ (tm = row 0 ∧ ∃ t : Nat, t ≤ B ∧ tm = nI t) ∧ WY wn wz row
theorem lf_congr {row row' : ar} (h : ∀ k, k < 622 → row k = row' k) : cntF (lf row) 36 0 = cntF (lf row') 36 0 := cnt_same _ _ _ _ (fun i _ h2 => by unfold lf; rw [h (118 + i) (by omega)])
theorem LK.rc {nd : Nat} {dl dl' row row' : ar} (hd : ∀ k, k < 36 → dl k = dl' k) (h : ∀ k, k < 622 → row k = row' k) (hK : LK nd dl row) : LK nd dl' row' := by
  obtain ⟨h1, h2, h3, h4, h5⟩ := hK
  refine ⟨fun u v hu hv e => ?_, fun u hu => ?_, fun u v hu hv e => ?_, fun u v hu hv => ?_, fun u v hu hv e => ?_⟩
  · rw [← hd _ (by omega), ← h _ (by have := pr_lt hu hv; omega)]; exact h1 u v hu hv e
  · rw [← hd _ (by omega)]; exact h2 u hu
  · rw [← h _ (by omega)]; exact h3 u v hu hv e
  · rw [← hd _ (by omega)]; exact h4 u v hu hv
  · rw [← hd _ (by omega)]; exact h5 u v hu hv e
theorem RK.cong {nd B B' : Nat} {dl dl' : ar} {lt : Int32} {hp hp' gs gs' md md' ct ct' xp xp' wn wn' : ar} {wz tm : Int32} {row row' : ar} (hB : B ≤ B') (e1 : ∀ k, k < 36 → dl k = dl' k) (e2 : ∀ k, k < 36 → hp k = hp' k) (e3 : ∀ k, k < 216 → gs k = gs' k) (e4 : ∀ k, k < 216 → md k = md' k) (e5 : ∀ k, k < 6 → ct k = ct' k) (e6 : ∀ k, k < 6 → xp k = xp' k) (e7 : ∀ k, k < wz.toNatClampNeg → wn k = wn' k) (h : ∀ k, k < 622 → row k = row' k) (hR : RK nd B dl lt hp gs md ct xp wn wz tm row) : RK nd B' dl' lt hp' gs' md' ct' xp' wn' wz tm row' := by
  obtain ⟨h1, ⟨h2, h2b⟩, h3, h4, h5, ⟨h6, t, ht, h6b⟩, h7⟩ := hR
  refine ⟨h1.rc e1 h, ⟨by rw [h2, lf_congr h], by rw [← lf_congr h]; exact h2b⟩, fun u v huv hv => ?_, fun c hc => ?_, fun u hu => ?_, ⟨by rw [h6, h 0 (by omega)], t, by omega, h6b⟩, ?_⟩
  · rw [← e2 _ (by omega), ← h _ (by omega)]; exact h3 u v huv hv
  · rw [← e4 c hc, ← e3 c hc, ← h (406 + c) (by omega), ← h (190 + c) (by omega)]; exact h4 c hc
  · rw [← e5 u hu, ← e6 u hu, ← h (106 + u) (by omega), ← h (112 + u) (by omega)]; exact h5 u hu
  · rcases h7 with ⟨a, b⟩ | ⟨q, a, b, c, d⟩
    · exact Or.inl ⟨a, by rw [← h 1 (by omega)]; exact b⟩
    · refine Or.inr ⟨q, a, b, by rw [← h 1 (by omega)]; exact c, fun k hk => ?_⟩
      rw [← e7 k (by rw [b, clN (by omega)]; omega), ← h (2 + k) (by omega)]
      exact d k hk
theorem cpy_in {f g : ar} {n k : Nat} (h : k < n) : va_cpy f g 0 0 n k = f k := by
  rw [pk_cpy_in (by omega) (by omega)]
  congr 1
  omega
theorem WY.sz {wn : ar} {wz : Int32} {row : ar} (h : WY wn wz row) : ∃ q : Nat, q ≤ 101 ∧ wz = nI q := by
  rcases h with ⟨a, -⟩ | ⟨q, a, b, -⟩
  · exact ⟨0, by omega, a⟩
  · exact ⟨q + 1, by omega, b⟩
theorem cpoN {α : Type} {n a b : Nat} {x : Option α} (h1 : n ≤ a) (h2 : n ≤ b) (hn : n < 2147483648) : ck (cpo 0 0 (nI n) a b) x = x := by
  have e0 : (0 : Int32).toNatClampNeg = 0 := rfl
  have e : cpo 0 0 (nI n) a b = true := decide_eq_true ⟨by decide, by decide, nI_pos hn, by rw [e0, clN hn]; omega, by rw [e0, clN hn]; omega⟩
  rw [e]; rfl
/-- copyFrom: the same known -/
theorem copyK {nd B B' : Nat} {odl : ar} {olt : Int32} {ohp ogs omd oct oxp own : ar} {owz otm : Int32} {row row' : ar} (hB : B ≤ B') (hr : ∀ k, k < 622 → row k = row' k) (hR : RK nd B odl olt ohp ogs omd oct oxp own owz otm row) (dl hp gs md ct xp wn : ar) : ∃ dl' hp' gs' md' ct' xp' wn', f_X1_copyFrom dl hp gs md ct xp wn odl olt ohp ogs omd oct oxp own owz otm = some (owz, otm, olt, dl', hp', gs', md', ct', xp', wn') ∧ RK nd B' dl' olt hp' gs' md' ct' xp' wn' owz otm row' := by
  obtain ⟨q, hq, hwz⟩ := hR.2.2.2.2.2.2.sz
  have e0 : (0 : Int32).toNatClampNeg = 0 := rfl
  have c36 : ∀ {α : Type} (x : Option α), ck (cpo 0 0 36 36 36) x = x := fun x => cpoN (n := 36) (by omega) (by omega) (by omega)
  have c216 : ∀ {α : Type} (x : Option α), ck (cpo 0 0 216 216 216) x = x := fun x => cpoN (n := 216) (by omega) (by omega) (by omega)
  have c6 : ∀ {α : Type} (x : Option α), ck (cpo 0 0 6 6 6) x = x := fun x => cpoN (n := 6) (by omega) (by omega) (by omega)
  have cw : ∀ {α : Type} (x : Option α), ck (cpo 0 0 owz 101 101) x = x := fun x => by rw [hwz]; exact cpoN (by omega) (by omega) (by omega)
  refine ⟨va_cpy odl dl 0 0 36, va_cpy ohp hp 0 0 36, va_cpy ogs gs 0 0 216, va_cpy omd md 0 0 216, va_cpy oct ct 0 0 6, va_cpy oxp xp 0 0 6, va_cpy own wn 0 0 owz.toNatClampNeg, ?_, ?_⟩
  rotate_left
  · exact hR.cong (dl' := va_cpy odl dl 0 0 36) (hp' := va_cpy ohp hp 0 0 36) (gs' := va_cpy ogs gs 0 0 216) (md' := va_cpy omd md 0 0 216) (ct' := va_cpy oct ct 0 0 6) (xp' := va_cpy oxp xp 0 0 6) (wn' := va_cpy own wn 0 0 owz.toNatClampNeg) hB (fun k h => (cpy_in h).symm) (fun k h => (cpy_in h).symm) (fun k h => (cpy_in h).symm) (fun k h => (cpy_in h).symm) (fun k h => (cpy_in h).symm) (fun k h => (cpy_in h).symm) (fun k h => (cpy_in h).symm) hr
  · unfold f_X1_copyFrom f_X3_copyFrom
    simp only [c36, c216, c6, cw, Option.bind_some, e0]
    rfl
/-! rows of numbers copied -/
def put622 (src dst : ar) (a : Nat) : ar := fun i => if a ≤ i ∧ i < a + 622 then src (i - a) else dst i
theorem rem_L {now : ar} {at_ : Nat} (ha : at_ < 8) : ∀ (n k : Nat) (und : ar), k ≤ 622 → 622 - k < n → f_X12_remembers_L2 now (nI at_) n (nI k) und = some (fun i => if 622 * at_ + k ≤ i ∧ i < 622 * at_ + 622 then now (i - 622 * at_) else und i) := by
  intro n
  induction n with
  | zero => intro k und h1 h2; omega
  | succ n ih =>
    intro k und h1 h2
    rw [f_X12_remembers_L2]
    by_cases hk : 622 ≤ k
    · have : k = 622 := by omega
      subst this
      rw [if_pos (by decide)]
      congr 1
      funext i
      rw [if_neg (by omega)]
    · rw [if_neg (show ¬ (622 : Int32) ≤ nI k from nI_ge (a := k) (b := 622) (by omega) (by omega))]
      have e1 : (622 : Int32) * nI at_ = nI (622 * at_) := pk_mul 622 at_
      rw [e1]
      simp (disch := omega) only [nI_add, ckN, clN, nI_1]
      rw [ih (k + 1) _ (by omega) (by omega)]
      congr 1
      funext i
      unfold upd
      by_cases h3 : 622 * at_ + (k + 1) ≤ i ∧ i < 622 * at_ + 622
      · rw [if_pos h3, if_pos (by omega)]
      · rw [if_neg h3]
        by_cases h4 : i = 622 * at_ + k
        · subst h4
          rw [if_pos rfl, if_pos (by omega)]
          congr 1
          omega
        · rw [if_neg h4, if_neg (by omega)]
theorem keep_L {now : ar} {at_ : Nat} (ha : at_ < 2) : ∀ (n k : Nat) (und : ar), k ≤ 622 → 622 - k < n → f_X12_keep_L20 now (nI at_) n (nI k) und = some (fun i => if 622 * at_ + k ≤ i ∧ i < 622 * at_ + 622 then now (i - 622 * at_) else und i) := by
  intro n
  induction n with
  | zero => intro k und h1 h2; omega
  | succ n ih =>
    intro k und h1 h2
    rw [f_X12_keep_L20]
    by_cases hk : 622 ≤ k
    · have : k = 622 := by omega
      subst this
      rw [if_pos (by decide)]
      congr 1
      funext i
      rw [if_neg (by omega)]
    · rw [if_neg (show ¬ (622 : Int32) ≤ nI k from nI_ge (a := k) (b := 622) (by omega) (by omega))]
      have e1 : (622 : Int32) * nI at_ = nI (622 * at_) := pk_mul 622 at_
      rw [e1]
      simp (disch := omega) only [nI_add, ckN, clN, nI_1]
      rw [ih (k + 1) _ (by omega) (by omega)]
      congr 1
      funext i
      unfold upd
      by_cases h3 : 622 * at_ + (k + 1) ≤ i ∧ i < 622 * at_ + 622
      · rw [if_pos h3, if_pos (by omega)]
      · rw [if_neg h3]
        by_cases h4 : i = 622 * at_ + k
        · subst h4
          rw [if_pos rfl, if_pos (by omega)]
          congr 1
          omega
        · rw [if_neg h4, if_neg (by omega)]
theorem back_L {kept : ar} {at_ : Nat} (ha : at_ < 2) : ∀ (n k : Nat) (now : ar), k ≤ 622 → 622 - k < n → f_X12_back_L25 kept (nI at_) n (nI k) now = some (fun i => if k ≤ i ∧ i < 622 then kept (622 * at_ + i) else now i) := by
  intro n
  induction n with
  | zero => intro k und h1 h2; omega
  | succ n ih =>
    intro k und h1 h2
    rw [f_X12_back_L25]
    by_cases hk : 622 ≤ k
    · have : k = 622 := by omega
      subst this
      rw [if_pos (by decide)]
      congr 1
      funext i
      rw [if_neg (by omega)]
    · rw [if_neg (show ¬ (622 : Int32) ≤ nI k from nI_ge (a := k) (b := 622) (by omega) (by omega))]
      have e1 : (622 : Int32) * nI at_ = nI (622 * at_) := pk_mul 622 at_
      rw [e1]
      simp (disch := omega) only [nI_add, ckN, clN, nI_1]
      rw [ih (k + 1) _ (by omega) (by omega)]
      congr 1
      funext i
      unfold upd
      by_cases h3 : k + 1 ≤ i ∧ i < 622
      · rw [if_pos h3, if_pos (by omega)]
      · rw [if_neg h3]
        by_cases h4 : i = k
        · subst h4
          rw [if_pos rfl, if_pos (by omega)]
        · rw [if_neg h4, if_neg (by omega)]
theorem undo_L {und : ar} {m_at : Int32} {at_ : Nat} (ha : at_ < 8) (hm : m_at + 8 - 1 - (m_at + 8 - 1) / 8 * 8 = nI at_) : ∀ (n k : Nat) (now : ar), k ≤ 622 → 622 - k < n → f_X12_undo_L38 m_at und n (nI k) now = some (fun i => if k ≤ i ∧ i < 622 then und (622 * at_ + i) else now i) := by
  intro n
  induction n with
  | zero => intro k now h1 h2; omega
  | succ n ih =>
    intro k now h1 h2
    rw [f_X12_undo_L38]
    by_cases hk : 622 ≤ k
    · have : k = 622 := by omega
      subst this
      rw [if_pos (by decide)]
      congr 1
      funext i
      rw [if_neg (by omega)]
    · rw [if_neg (show ¬ (622 : Int32) ≤ nI k from nI_ge (a := k) (b := 622) (by omega) (by omega))]
      have e1 : (622 : Int32) * nI at_ = nI (622 * at_) := pk_mul 622 at_
      rw [hm, e1]
      simp (disch := omega) only [nI_add, ckN, clN, nI_1]
      rw [ih (k + 1) _ (by omega) (by omega)]
      congr 1
      funext i
      unfold upd
      by_cases h3 : k + 1 ≤ i ∧ i < 622
      · rw [if_pos h3, if_pos (by omega)]
      · rw [if_neg h3]
        by_cases h4 : i = k
        · subst h4
          rw [if_pos rfl, if_pos (by omega)]
        · rw [if_neg h4, if_neg (by omega)]
