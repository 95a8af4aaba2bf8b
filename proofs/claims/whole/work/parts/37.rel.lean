/-! the relation of the two sides -/
def RKv (nd B : Nat) (k : Nat → ar) (row : ar) : Prop := RK nd B (k 0) (k 7 0) (k 1) (k 2) (k 3) (k 4) (k 5) (k 6) (k 7 1) (k 7 2) row
theorem RK.mono {nd B B' : Nat} {dl : ar} {lt : Int32} {hp gs md ct xp wn : ar} {wz tm : Int32} {row : ar} (hB : B ≤ B') (hR : RK nd B dl lt hp gs md ct xp wn wz tm row) : RK nd B' dl lt hp gs md ct xp wn wz tm row := hR.cong hB (fun _ _ => rfl) (fun _ _ => rfl) (fun _ _ => rfl) (fun _ _ => rfl) (fun _ _ => rfl) (fun _ _ => rfl) (fun _ _ => rfl) (fun _ _ => rfl)
def RU (nd B : Nat) (la ps : Int32) (rv : Nat → Nat → ar) (mat mmany : Int32) (und : ar) : Prop := ∃ a n : Nat, a < 8 ∧ n ≤ 8 ∧ la = nI a ∧ mat = nI a ∧ ps = nI n ∧ mmany = nI n ∧ ∀ i, i < n → RKv nd B (rv ((a + 8 - i) % 8)) (fun k => und (622 * ((a + 7 - i) % 8) + k))
theorem RU.mono {nd B B' : Nat} {la ps : Int32} {rv : Nat → Nat → ar} {mat mmany : Int32} {und : ar} (hB : B ≤ B') (h : RU nd B la ps rv mat mmany und) : RU nd B' la ps rv mat mmany und := by
  obtain ⟨a, n, h1, h2, h3, h4, h5, h6, h7⟩ := h
  exact ⟨a, n, h1, h2, h3, h4, h5, h6, fun i hi => RK.mono hB (h7 i hi)⟩
theorem remN (a : Nat) (ha : a < 8) : nI a + 1 - (nI a + 1) / 8 * 8 = nI ((a + 1) % 8) := by
  rw [nI_1]
  exact pk_rem (a := a + 1) (d := 8) (by omega) (by omega) (by omega)
theorem remN2 (a : Nat) (ha : a < 8) : nI a + 8 - 1 - (nI a + 8 - 1) / 8 * 8 = nI ((a + 7) % 8) := by
  have e : nI a + 8 - 1 = nI (a + 7) := by
    have e1 : nI a + 8 = nI (a + 8) := nI_add a 8
    rw [e1]
    exact nI_pred (a + 7)
  rw [e]
  exact pk_rem (a := a + 7) (d := 8) (by omega) (by omega) (by omega)
theorem push_K {N nd B : Nat} {dl : ar} {lt : Int32} {hp gs md ct xp wn : ar} {wz tm : Int32} {row : ar} {la ps : Int32} {rv : Nat → Nat → ar} {mat mmany : Int32} {und : ar} (hN : 1000 ≤ N) (hR : RK nd B dl lt hp gs md ct xp wn wz tm row) (hU : RU nd B la ps rv mat mmany und) : ∃ la' ps' rv' mmany' mat' und', f_X4_push rv la ps dl lt hp gs md ct xp wn wz tm = some (la', ps', rv') ∧ f_X12_remembers N row mmany mat und = some (mmany', mat', und') ∧ RU nd B la' ps' rv' mat' mmany' und' := by
  obtain ⟨a, n, h1, h2, h3, h4, h5, h6, h7⟩ := hU
  subst h3; subst h4; subst h5; subst h6
  have hj : (if (8 : Int32) ≤ nI a + 1 then some (0 : Int32) else some (nI a + 1)) = some (nI ((a + 1) % 8)) := by
    rw [nI_1]
    by_cases h : 8 ≤ a + 1
    · have : a = 7 := by omega
      subst this
      rfl
    · rw [if_neg (show ¬ (8 : Int32) ≤ nI (a + 1) from nI_ge (a := a + 1) (b := 8) (by omega) (by omega))]
      congr 2
      omega
  generalize ha' : (a + 1) % 8 = a' at hj
  have ha8 : a' < 8 := by omega
  obtain ⟨dl', hp', gs', md', ct', xp', wn', c1, c2⟩ := copyK (row' := row) (B' := B) (Nat.le_refl _) (fun _ _ => rfl) hR (rv a' 0) (rv a' 1) (rv a' 2) (rv a' 3) (rv a' 4) (rv a' 5) (rv a' 6)
  have hrem := rem_L (now := row) h1 N 0 und (by omega) (by omega)
  have e4 : nI 0 = 0 := rfl
  rw [e4] at hrem
  have hle : ((8 : Int32) ≤ nI n) = (8 ≤ n) := leN (a := 8) (by omega) (by omega)
  have hps : (if (8 : Int32) ≤ nI n then nI n else nI n + 1) = nI (if 8 ≤ n then n else n + 1) := by
    by_cases h : 8 ≤ n
    · rw [if_pos (by rw [hle]; exact h), if_pos h]
    · rw [if_neg (by rw [hle]; exact h), if_neg h, nI_1]
  refine ⟨nI a', nI (if 8 ≤ n then n else n + 1), va_up rv a' (kvT dl' hp' gs' md' ct' xp' wn' lt wz tm), nI (if 8 ≤ n then n else n + 1), nI a', (fun i => if 622 * a + 0 ≤ i ∧ i < 622 * a + 622 then row (i - 622 * a) else und i), ?_, ?_, ⟨a', if 8 ≤ n then n else n + 1, ha8, by split <;> omega, rfl, rfl, rfl, rfl, fun i hi => ?_⟩⟩
  rotate_left
  · unfold f_X12_remembers
    rw [hrem, Option.bind_some, remN a h1, ha']
    have ez : nI n + 0 = nI n := nI_add n 0
    by_cases h : 8 ≤ n
    · rw [if_pos (by rw [hle]; exact h), if_pos h, ez]
    · rw [if_neg (by rw [hle]; exact h), if_neg h, nI_1]
  · unfold RKv
    by_cases hi0 : i = 0
    · subst hi0
      have e1 : (a' + 8 - 0) % 8 = a' := by omega
      have e2 : (a' + 7 - 0) % 8 = a := by omega
      rw [e1, e2]
      have e3 : va_up rv a' (kvT dl' hp' gs' md' ct' xp' wn' lt wz tm) a' = kvT dl' hp' gs' md' ct' xp' wn' lt wz tm := by simp [va_up]
      rw [e3]
      refine RK.cong (Nat.le_refl _) (fun _ _ => rfl) (fun _ _ => rfl) (fun _ _ => rfl) (fun _ _ => rfl) (fun _ _ => rfl) (fun _ _ => rfl) (fun _ _ => rfl) (fun k hk => ?_) c2
      dsimp only
      rw [if_pos (by omega)]
      congr 1
      omega
    · have hi8 : i < 8 := by split at hi <;> omega
      have hin : i - 1 < n := by split at hi <;> omega
      have := h7 (i - 1) hin
      have e1 : (a' + 8 - i) % 8 = (a + 8 - (i - 1)) % 8 := by omega
      have e2 : (a' + 7 - i) % 8 = (a + 7 - (i - 1)) % 8 := by omega
      have e5 : (a + 8 - (i - 1)) % 8 ≠ a' := by omega
      have e6 : (a + 7 - (i - 1)) % 8 ≠ a := by omega
      rw [e1, e2]
      have e3 : va_up rv a' (kvT dl' hp' gs' md' ct' xp' wn' lt wz tm) ((a + 8 - (i - 1)) % 8) = rv ((a + 8 - (i - 1)) % 8) := by simp [va_up, e5]
      rw [e3]
      refine RK.cong (Nat.le_refl _) (fun _ _ => rfl) (fun _ _ => rfl) (fun _ _ => rfl) (fun _ _ => rfl) (fun _ _ => rfl) (fun _ _ => rfl) (fun _ _ => rfl) (fun k hk => ?_) this
      dsimp only
      rw [if_neg (by omega)]
  · unfold f_X4_push
    rw [hj, Option.bind_some]
    simp (disch := omega) only [ckN, clN]
    rw [c1, Option.bind_some]
    by_cases h : 8 ≤ n
    · rw [if_pos (by rw [hle]; exact h), if_pos h]
    · rw [if_neg (by rw [hle]; exact h), if_neg h, nI_1]
theorem pop_K {N nd B : Nat} {dl : ar} {lt : Int32} {hp gs md ct xp wn : ar} {wz tm : Int32} {row : ar} {la ps : Int32} {rv : Nat → Nat → ar} {mat mmany : Int32} {und : ar} (hN : 1000 ≤ N) (hR : RK nd B dl lt hp gs md ct xp wn wz tm row) (hU : RU nd B la ps rv mat mmany und) : ∃ r wz' tm' lt' dl' hp' gs' md' ct' xp' wn' la' ps' mmany' mat' row', f_X11_undo dl lt hp gs md ct xp wn wz tm rv la ps = some (r, wz', tm', lt', dl', hp', gs', md', ct', xp', wn', la', ps') ∧ f_X12_undo N row mmany mat und = some (r, mmany', mat', row') ∧ RK nd B dl' lt' hp' gs' md' ct' xp' wn' wz' tm' row' ∧ RU nd B la' ps' rv mat' mmany' und := by
  obtain ⟨a, n, h1, h2, h3, h4, h5, h6, h7⟩ := hU
  subst h3; subst h4; subst h5; subst h6
  unfold f_X11_undo f_X12_undo f_X4_pop
  by_cases hn : n = 0
  · subst hn
    rw [if_pos (by rfl), if_pos (by rfl)]
    exact ⟨_, _, _, _, _, _, _, _, _, _, _, _, _, _, _, _, rfl, rfl, hR, ⟨a, 0, h1, by omega, rfl, rfl, rfl, rfl, fun i hi => by omega⟩⟩
  · have hne : ¬ nI n = 0 := nI_ne0 (by omega) (by omega)
    rw [if_neg hne, if_neg hne]
    have h70 := h7 0 (by omega)
    have e1 : (a + 8 - 0) % 8 = a := by omega
    have e2 : (a + 7 - 0) % 8 = (a + 7) % 8 := by omega
    rw [e1, e2] at h70
    unfold RKv at h70
    generalize ha' : (a + 7) % 8 = a' at h70
    have hund := undo_L (und := und) (m_at := nI a) (at_ := a') (by omega) (by rw [← ha']; exact remN2 a h1) N 0 row (by omega) (by omega)
    have e4 : nI 0 = 0 := rfl
    rw [e4] at hund
    obtain ⟨dl', hp', gs', md', ct', xp', wn', c1, c2⟩ := copyK (row' := fun i => if 0 ≤ i ∧ i < 622 then und (622 * a' + i) else row i) (B' := B) (Nat.le_refl _) (fun k hk => by rw [if_pos (by omega)]) h70 dl hp gs md ct xp wn
    simp (disch := omega) only [ckN, clN]
    rw [c1, Option.bind_some, hund, Option.bind_some, remN2 a h1, ha']
    have hpm : nI n - 1 = nI (n - 1) := by
      obtain ⟨m, rfl⟩ : ∃ m, n = m + 1 := ⟨n - 1, by omega⟩
      exact nI_pred m
    have hla : (if nI a ≤ 0 then (7 : Int32) else nI a - 1) = nI a' := by
      by_cases h0 : a = 0
      · subst h0
        have : a' = 7 := by omega
        subst this
        rfl
      · rw [if_neg (nI_nle (by omega) (by omega))]
        obtain ⟨m, rfl⟩ : ∃ m, a = m + 1 := ⟨a - 1, by omega⟩
        rw [nI_pred]
        congr 1
        omega
    have hcase : (if nI a ≤ 0 then some (true, (7 : Int32), nI n - 1, rv a 7 1, rv a 7 2, rv a 7 0, dl', hp', gs', md', ct', xp', wn') else some (true, nI a - 1, nI n - 1, rv a 7 1, rv a 7 2, rv a 7 0, dl', hp', gs', md', ct', xp', wn')) = some (true, nI a', nI n - 1, rv a 7 1, rv a 7 2, rv a 7 0, dl', hp', gs', md', ct', xp', wn') := by
      rw [← hla]
      by_cases h0 : nI a ≤ 0
      · rw [if_pos h0, if_pos h0]
      · rw [if_neg h0, if_neg h0]
    dsimp only
    rw [hcase, Option.bind_some, if_neg (show ¬ b2i true = 0 from by decide), hpm]
    refine ⟨_, _, _, _, _, _, _, _, _, _, _, _, _, _, _, _, rfl, rfl, c2, ⟨a', n - 1, by omega, by omega, rfl, rfl, rfl, rfl, fun i hi => ?_⟩⟩
    have := h7 (i + 1) (by omega)
    have e5 : (a' + 8 - i) % 8 = (a + 8 - (i + 1)) % 8 := by omega
    have e6 : (a' + 7 - i) % 8 = (a + 7 - (i + 1)) % 8 := by omega
    rw [e5, e6]
    exact this
