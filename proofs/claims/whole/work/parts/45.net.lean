/-! the text, on both sides -/
theorem text_L {len N : Nat} {c : Nat → Nat} {tx ty : ar} (hN : 130 ≤ N) (hT : TXT len c tx) (hU : TXT len c ty) {x1 x2 x3 x4 x5 x6 : Int32} {now : ar} {um : Int32} {isk : ar} {sm : Int32} : ∀ (n g p s j it nd : Nat) (kd nu pl qrn qre qrh qra qrl qrf : Int32) (qdl : ar) (qlt ta tk nn ne nh na nl nf nL : Int32) (ndl : ar), p ≤ len → Sk len c p s → j ≤ p → it ≤ p → len - p < n → len - p < g → TR nd it qrn qre qrh qra qrl qrf qdl qlt nn ne nh na nl nf nL ndl →
    (∃ (pf : Nat) (RC : Int32 × Int32 × Int32 × Int32 × Int32 × Int32 × Int32 × Int32 × Int32 × Int32 × Int32 × Int32 × ar) (y1 y2 y3 y4 y5 y6 y7 y8 y9 y10 : Int32) (y11 : ar), pf ≤ len ∧ f_X6_readText_L26 tx (nI len) N n (nI j) (nI it) kd nu pl (nI p) qrn qre qrh qra qrl qrf qlt qdl = some (.inl (nI pf, RC)) ∧ f_X12_net_L69 x1 x2 x3 x4 x5 x6 now um isk (nI len) ty sm N g (nI it) (nI s) ta tk nn ne nh na nl nf nL ndl = some (.inl (-10 - nI pf, x1, x2, x3, x4, x5, x6, um, nI len, y1, y2, y3, y4, y5, y6, y7, y8, y9, y10, sm, now, isk, y11))) ∨
    (∃ (it' nd' : Nat) (a1 a2 a3 a4 b1 b2 b3 qrn' qre' qrh' qra' qrl' qrf' qlt' : Int32) (qdl' : ar) (nn' ne' nh' na' nl' nf' nL' : Int32) (ndl' : ar), it' < 2147483648 ∧ f_X6_readText_L26 tx (nI len) N n (nI j) (nI it) kd nu pl (nI p) qrn qre qrh qra qrl qrf qlt qdl = some (.inl (-1, nI it', a1, a2, a3, a4, qrn', qre', qrh', qra', qrl', qrf', qlt', qdl')) ∧ f_X12_net_L69 x1 x2 x3 x4 x5 x6 now um isk (nI len) ty sm N g (nI it) (nI s) ta tk nn ne nh na nl nf nL ndl = some (.inr (nI it', b1, b2, b3, nn', ne', nh', na', nl', nf', nL', ndl')) ∧ TR nd' it' qrn' qre' qrh' qra' qrl' qrf' qdl' qlt' nn' ne' nh' na' nl' nf' nL' ndl') := by
  intro n
  induction n with
  | zero => intro g p s j it nd kd nu pl qrn qre qrh qra qrl qrf qdl qlt ta tk nn ne nh na nl nf nL ndl h1 h2 h3 h4 h5; omega
  | succ n ih =>
    intro g p s j it nd kd nu pl qrn qre qrh qra qrl qrf qdl qlt ta tk nn ne nh na nl nf nL ndl h1 hs h3 h4 h5 h6 hTR
    obtain ⟨g, rfl⟩ : ∃ q, g = q + 1 := ⟨g - 1, by omega⟩
    have hl := hT.1
    have hs1 := hs.1
    have hs2 := hs.2.1
    obtain ⟨kd1, nu1, q, tk1, a1, a2, a3, a4, a5, a6⟩ := token hN hT hU hs hs.self nu
    rw [f_X6_readText_L26, f_X12_net_L69, if_neg (show ¬ (120 : Int32) < nI j from nI_nlt (a := 120) (by omega) (by omega)), a1, Option.bind_some]
    dsimp only
    rcases a6 with ⟨b1, b2, b3⟩ | ⟨b1, b2, b3⟩
    · rw [if_pos b1, if_pos (nI_le (by omega) (by omega))]
      exact Or.inr ⟨it, nd, _, _, _, _, _, _, _, _, _, _, _, _, _, _, _, _, _, _, _, _, _, _, _, by omega, rfl, rfl, hTR⟩
    · rw [if_neg b1, if_neg (nI_ge (by omega) (by omega))]
      have hI := item_K hN hT hU a5 hs2 hTR nu1 (by omega) a3 b1 a2
      rcases hI with ⟨pf, R, R', c1, c2, c3, c4, c5⟩ | ⟨kd2, nu2, pl2, q2, qrn', qre', qrh', qra', qrl', qrf', qlt', qdl', c1, c2, c3, c4⟩
      · rw [c1, c3, Option.bind_some, Option.bind_some]
        dsimp only
        rw [if_pos (show b2i false = 0 from rfl), if_pos (show b2i false = 0 from rfl), c2, c4]
        exact Or.inl ⟨pf, _, _, _, _, _, _, _, _, _, _, _, _, c5, rfl, rfl⟩
      · rw [c1, Option.bind_some]
        dsimp only
        rw [if_neg (show ¬ b2i true = 0 from by decide)]
        rcases c4 with ⟨pf, R5, R', d1, d2, d3, d4, d5⟩ | ⟨kd3, nu3, pl3, q3, t1, t2, nd', nn', ne', nh', na', nl', nf', nL', ndl', d1, d2, d3, d4, d5⟩
        · rw [d1, d3, Option.bind_some, Option.bind_some]
          dsimp only
          rw [if_pos (show b2i false = 0 from rfl), if_pos (show b2i false = 0 from rfl), d2, d4]
          exact Or.inl ⟨pf, _, _, _, _, _, _, _, _, _, _, _, _, d5, rfl, rfl⟩
        · rw [d1, d2, Option.bind_some, Option.bind_some]
          dsimp only
          obtain ⟨s3, hs3⟩ := Sk.ex len c (len - q3) q3 (by omega)
          have hbl : f_X12_blanks N (nI len) ty (nI q3) = some (nI s3) := by
            unfold f_X12_blanks
            rw [skR hU N q3 s3 hs3 (by omega)]
            rfl
          rw [if_neg (show ¬ b2i true = 0 from by decide), if_neg (show ¬ b2i true = 0 from by decide), hbl, Option.bind_some, nI_1, nI_1]
          exact ih g q3 s3 (j + 1) (it + 1) nd' _ _ _ _ _ _ _ _ _ _ _ _ _ _ _ _ _ _ _ _ _ d4 hs3 (by omega) (by omega) (by omega) (by omega) d5
theorem zeros_L : ∀ (n k : Nat) (f : ar), k ≤ 36 → 36 - k < n → f_X12_net_L39 n (nI k) f = some (fun i => if k ≤ i ∧ i < 36 then 0 else f i) := by
  intro n
  induction n with
  | zero => intro k f h1 h2; omega
  | succ n ih =>
    intro k f h1 h2
    rw [f_X12_net_L39]
    by_cases hk : 36 ≤ k
    · have : k = 36 := by omega
      subst this
      rw [if_pos (by decide)]
      congr 1
      funext i
      rw [if_neg (by omega)]
    · rw [if_neg (show ¬ (36 : Int32) ≤ nI k from nI_ge (a := k) (b := 36) (by omega) (by omega))]
      simp (disch := omega) only [ckN, clN, nI_1]
      rw [ih (k + 1) _ (by omega) (by omega)]
      congr 1
      funext i
      unfold upd
      by_cases h3 : k + 1 ≤ i ∧ i < 36
      · rw [if_pos h3, if_pos (by omega)]
      · rw [if_neg h3]
        by_cases h4 : i = k
        · subst h4; rw [if_pos rfl, if_pos (by omega)]
        · rw [if_neg h4, if_neg (by omega)]
theorem begins_L : ∀ (n k : Nat) (f : ar), k ≤ 622 → 622 - k < n → f_X12_begins_L2 n (nI k) f = some (fun i => if k ≤ i ∧ i < 622 then (if 406 ≤ i then -1 else 0) else f i) := by
  intro n
  induction n with
  | zero => intro k f h1 h2; omega
  | succ n ih =>
    intro k f h1 h2
    rw [f_X12_begins_L2]
    by_cases hk : 622 ≤ k
    · have : k = 622 := by omega
      subst this
      rw [if_pos (by decide)]
      congr 1
      funext i
      rw [if_neg (by omega)]
    · rw [if_neg (show ¬ (622 : Int32) ≤ nI k from nI_ge (a := k) (b := 622) (by omega) (by omega))]
      simp (disch := omega) only [ckN, clN, nI_1]
      have e4 : ((406 : Int32) ≤ nI k) = (406 ≤ k) := leN (a := 406) (by omega) (by omega)
      by_cases h406 : 406 ≤ k
      · rw [if_pos (show (406 : Int32) ≤ nI k from by rw [e4]; exact h406), ih (k + 1) _ (by omega) (by omega)]
        congr 1
        funext i
        unfold upd
        by_cases h3 : k + 1 ≤ i ∧ i < 622
        · rw [if_pos h3, if_pos (show k ≤ i ∧ i < 622 by omega)]
        · rw [if_neg h3]
          by_cases h4 : i = k
          · subst h4; rw [if_pos rfl, if_pos (show i ≤ i ∧ i < 622 by omega), if_pos h406]
          · rw [if_neg h4, if_neg (show ¬ (k ≤ i ∧ i < 622) by omega)]
      · rw [if_neg (show ¬ (406 : Int32) ≤ nI k from by rw [e4]; exact h406), ih (k + 1) _ (by omega) (by omega)]
        congr 1
        funext i
        unfold upd
        by_cases h3 : k + 1 ≤ i ∧ i < 622
        · rw [if_pos h3, if_pos (show k ≤ i ∧ i < 622 by omega)]
        · rw [if_neg h3]
          by_cases h4 : i = k
          · subst h4; rw [if_pos rfl, if_pos (show i ≤ i ∧ i < 622 by omega), if_neg h406]
          · rw [if_neg h4, if_neg (show ¬ (k ≤ i ∧ i < 622) by omega)]
theorem lays_L {nd : ar} : ∀ (n k : Nat) (f : ar), k ≤ 36 → 36 - k < n → f_X12_net_L168 nd n (nI k) f = some (fun i => if 118 + k ≤ i ∧ i < 154 then nd (i - 118) else f i) := by
  intro n
  induction n with
  | zero => intro k f h1 h2; omega
  | succ n ih =>
    intro k f h1 h2
    rw [f_X12_net_L168]
    have e6 : ∀ c : Nat, (118 : Int32) + nI c = nI (118 + c) := fun c => nI_add 118 c
    by_cases hk : 36 ≤ k
    · have : k = 36 := by omega
      subst this
      rw [if_pos (by decide)]
      congr 1
      funext i
      rw [if_neg (by omega)]
    · rw [if_neg (show ¬ (36 : Int32) ≤ nI k from nI_ge (a := k) (b := 36) (by omega) (by omega))]
      simp (disch := omega) only [e6, ckN, clN, nI_1]
      rw [ih (k + 1) _ (by omega) (by omega)]
      congr 1
      funext i
      unfold upd
      by_cases h3 : 118 + (k + 1) ≤ i ∧ i < 154
      · rw [if_pos h3, if_pos (by omega)]
      · rw [if_neg h3]
        by_cases h4 : i = 118 + k
        · subst h4
          rw [if_pos rfl, if_pos (by omega)]
          congr 1
          omega
        · rw [if_neg h4, if_neg (by omega)]
theorem drop_K {N : Nat} (hN : 3 ≤ N) (ik : ar) : ∃ ik', f_X0_drop N ik = some ik' ∧ ik' 0 = 0 ∧ ik' 1 = 0 := by
  obtain ⟨m, rfl⟩ : ∃ m, N = m + 3 := ⟨N - 3, by omega⟩
  refine ⟨upd (upd ik 0 0) 1 0, ?_, rfl, rfl⟩
  unfold f_X0_drop
  rw [f_X0_drop_L2, if_neg (by decide)]
  have c0 : ∀ {α : Type} (x : Option α), ck (inb 0 2) x = x := fun x => ckN (a := 0) (by omega) (by omega)
  have c1 : ∀ {α : Type} (x : Option α), ck (inb (0 + 1) 2) x = x := fun x => ckN (a := 1) (by omega) (by omega)
  rw [c0, f_X0_drop_L2, if_neg (by decide), c1, f_X0_drop_L2, if_pos (by decide)]
  rfl
/-- all anew: the two sides agree -/
theorem RK_new {nd it : Nat} {qrn qre qrh qra qrl qrf : Int32} {qdl : ar} {qlt nn ne nh na nl nf nL : Int32} {ndl row : ar} (dl gs wn : ar) (hTR : TR nd it qrn qre qrh qra qrl qrf qdl qlt nn ne nh na nl nf nL ndl) (hr : ∀ k, k < 622 → row k = if 118 ≤ k ∧ k < 154 then ndl (k - 118) else if k = 1 then -1 else if 406 ≤ k then -1 else 0) : RK nd 0 (va_cpy qdl dl 0 0 36) qlt (fun _ => 0) gs (fun _ => 0) (fun _ => 0) (fun _ => 0) wn 0 0 row := by
  obtain ⟨t1, t2, t3, t4, t5, t6, t7, ⟨t8, t8b, t8c⟩, t9⟩ := hTR
  have hsh : ∀ k, 118 ≤ k → k < 154 → row k = sh ndl k := fun k h1 h2 => by rw [hr k (by omega), if_pos ⟨h1, h2⟩]; rfl
  have hcn : cntF (lf row) 36 0 = cntF (lf (sh ndl)) 36 0 := cnt_same _ _ _ _ (fun i _ h => by unfold lf; rw [hsh _ (by omega) (by omega)])
  have hz : ∀ k, k ≠ 1 → k < 118 ∨ (154 ≤ k ∧ k < 406) → row k = 0 := fun k h1 h2 => by rw [hr k (by omega), if_neg (by omega), if_neg h1, if_neg (by omega)]
  have hlk := (t7.rc2 hsh)
  refine ⟨⟨fun u v hu hv e => ?_, fun u hu => ?_, hlk.2.2.1, fun u v hu hv => ?_, fun u v hu hv e => ?_⟩, ⟨by rw [hcn]; exact t8, by rw [hcn]; exact t8c⟩, fun u v huv hv => by rw [hz _ (by omega) (by omega)], fun k hk => Or.inl ⟨rfl, ?_⟩, fun u hu => ⟨by rw [hz _ (by omega) (by omega)], by rw [hz _ (by omega) (by omega)]⟩, ⟨by rw [hz 0 (by omega) (by omega)], 0, by omega, rfl⟩, Or.inl ⟨rfl, ?_⟩⟩
  · rw [cpy_in (by omega)]; exact hlk.1 u v hu hv e
  · rw [cpy_in (by omega)]; exact hlk.2.1 u hu
  · rw [cpy_in (by omega)]; exact hlk.2.2.2.1 u v hu hv
  · rw [cpy_in (by omega)]; exact hlk.2.2.2.2 u v hu hv e
  · rw [hr _ (by omega), if_neg (by omega), if_neg (by omega), if_pos (by omega)]
  · rw [hr 1 (by omega), if_neg (by omega), if_pos rfl]
/-- net, on both sides -/
theorem net_K {len N : Nat} {c : Nat → Nat} {tx ty : ar} (hN : 1000 ≤ N) (hT : TXT len c tx) (hU : TXT len c ty) (kd nu pl rn re rh ra rl rf : Int32) (dl : ar) (lt : Int32) (hp md ct xp gs wn : ar) (wz tm ps : Int32) (ik : ar) (sz x1 x2 x3 x4 x5 x6 : Int32) (now : ar) (um : Int32) (isk : ar) (ta tk : Int32) (ndl : ar) (sm : Int32) :
    (∃ (r : Int32) (s1 s2 s3 s4 s5 s6 s7 s8 s9 s10 s11 s12 : Int32) (s13 : ar) (y1 y2 y3 y4 y5 y6 y7 y8 y9 y10 : Int32) (y11 : ar), f_X11_net N tx (nI len) kd nu pl rn re rh ra rl rf dl lt hp md ct xp wz tm ps ik sz = some (r, nI len, s1, s2, s3, s4, s5, s6, s7, s8, s9, s10, s11, s12, s13, rn, re, rh, ra, rl, rf, wz, tm, lt, dl, hp, md, ct, xp, ps, ik, sz) ∧ f_X12_net N x1 x2 x3 x4 x5 x6 now um isk (nI len) ty ta tk ndl sm = some (r, x1, x2, x3, x4, x5, x6, um, nI len, y1, y2, y3, y4, y5, y6, y7, y8, y9, y10, sm, now, isk, y11)) ∨
    (∃ (r : Int32) (s1 s2 s3 s4 s5 s6 s7 s8 s9 s10 s11 s12 : Int32) (s13 : ar) (nd : Nat) (rn' re' rh' ra' rl' rf' lt' : Int32) (dl' ik' now' isk' : ar) (y1 y2 y3 y4 y5 y6 y7 y8 y9 y10 : Int32) (y11 : ar), f_X11_net N tx (nI len) kd nu pl rn re rh ra rl rf dl lt hp md ct xp wz tm ps ik sz = some (r, 0, s1, s2, s3, s4, s5, s6, s7, s8, s9, s10, s11, s12, s13, rn', re', rh', ra', rl', rf', 0, 0, lt', dl', (fun _ => 0), (fun _ => 0), (fun _ => 0), (fun _ => 0), 0, ik', 0) ∧ f_X12_net N x1 x2 x3 x4 x5 x6 now um isk (nI len) ty ta tk ndl sm = some (r, rn', re', rh', ra', rl', rf', 0, 0, y1, y2, y3, y4, y5, y6, y7, y8, y9, y10, 0, now', isk', y11) ∧ (2 ≤ nd ∧ nd ≤ 6 ∧ rn' = nI nd) ∧ (∃ k : Nat, k ≤ 9 ∧ re' = nI k) ∧ (∃ k : Nat, k ≤ 3 ∧ rh' = nI k) ∧ (∃ k : Nat, 1 ≤ k ∧ k ≤ 99 ∧ ra' = nI k) ∧ (∃ k : Nat, 1 ≤ k ∧ k ≤ 99 ∧ rl' = nI k) ∧ (∃ k : Nat, k ≤ 99 ∧ rf' = nI k) ∧ RK nd 0 dl' lt' (fun _ => 0) gs (fun _ => 0) (fun _ => 0) (fun _ => 0) wn 0 0 now' ∧ ik' 0 = 0 ∧ ik' 1 = 0 ∧ isk' 0 = 0 ∧ isk' 1 = 0) := by
  have hl := hT.1
  have hz := zeros_L N 0 ndl (by omega) (by omega)
  have e4 : nI 0 = 0 := rfl
  rw [e4] at hz
  obtain ⟨s, hs⟩ := Sk.ex len c len 0 (by omega)
  have hbl : f_X12_blanks N (nI len) ty 0 = some (nI s) := by
    unfold f_X12_blanks
    have := skR hU N 0 s hs (by omega)
    rw [e4] at this
    rw [this]
    rfl
  have hTR0 : TR 2 0 2 0 0 99 60 0 (fun _ => 0) 0 2 0 0 99 60 0 0 (fun i => if 0 ≤ i ∧ i < 36 then 0 else ndl i) := by
    have hsh0 : ∀ k, k < 36 → sh (fun i => if 0 ≤ i ∧ i < 36 then (0 : Int32) else ndl i) (118 + k) = 0 := fun k hk => by
      show (if 0 ≤ 118 + k - 118 ∧ 118 + k - 118 < 36 then (0 : Int32) else ndl (118 + k - 118)) = 0
      rw [if_pos (by omega)]
    have hcz : cntF (lf (sh (fun i => if 0 ≤ i ∧ i < 36 then (0 : Int32) else ndl i))) 36 0 = 0 := by
      cases hq : cntF (lf (sh (fun i => if 0 ≤ i ∧ i < 36 then (0 : Int32) else ndl i))) 36 0 with
      | zero => rfl
      | succ k =>
        obtain ⟨i, a, b, d⟩ := (cnt_pos _ 36 0).mp (by rw [hq]; omega)
        unfold lf at d
        rw [hsh0 i (by omega)] at d
        exact absurd d (by decide)
    exact ⟨⟨by omega, by omega, rfl, rfl⟩, ⟨0, by omega, rfl, rfl⟩, ⟨0, by omega, rfl, rfl⟩, ⟨99, by omega, by omega, rfl, rfl⟩, ⟨60, by omega, by omega, rfl, rfl⟩, ⟨0, by omega, rfl, rfl⟩, LK.zero 2 (fun _ _ => rfl) hsh0, ⟨by rw [hcz]; rfl, rfl, by omega⟩, fun _ k hk => ⟨rfl, by dsimp only; rw [if_pos (by omega)]⟩⟩
  have hX := text_L (x1 := x1) (x2 := x2) (x3 := x3) (x4 := x4) (x5 := x5) (x6 := x6) (now := now) (um := um) (isk := isk) (sm := sm) (N := N) (by omega) hT hU N N 0 s 0 0 2 kd nu pl 2 0 0 99 60 0 (fun _ => 0) 0 ta tk 2 0 0 99 60 0 0 _ (by omega) hs (by omega) (by omega) (by omega) (by omega) hTR0
  rw [e4] at hX
  unfold f_X11_net f_X12_net f_X6_readText f_X7_restart f_X3_restart
  rw [hz, hbl, Option.bind_some, Option.bind_some, Option.bind_some, Option.bind_some]
  dsimp only
  rcases hX with ⟨pf, RC, y1, y2, y3, y4, y5, y6, y7, y8, y9, y10, y11, a0, a1, a2⟩ | ⟨it', nd', a1, a2, a3, a4, b1, b2, b3, qrn', qre', qrh', qra', qrl', qrf', qlt', qdl', nn', ne', nh', na', nl', nf', nL', ndl', c0, c1, c2, c3⟩
  · rw [a1, a2]
    have hne : ¬ nI pf = -1 := by
      have := negN (a := 1) (by omega) (by omega) pf (by omega)
      intro q
      exact (this ▸ q : False)
    left
    obtain ⟨R1, R2, R3, R4, R5, R6, R7, R8, R9, R10, R11, R12, R13⟩ := RC
    refine ⟨-10 - nI pf, R1, R2, R3, R4, R5, R6, R7, R8, R9, R10, R11, R12, R13, y1, y2, y3, y4, y5, y6, y7, y8, y9, y10, y11, ?_, rfl⟩
    show Option.bind (some (nI pf, R1, R2, R3, R4, R5, R6, R7, R8, R9, R10, R11, R12, R13)) _ = _
    rw [Option.bind_some]
    dsimp only
    rw [if_neg hne]
  · rw [c1, c2]
    right
    have hbg := begins_L N 0 now (by omega) (by omega)
    rw [e4] at hbg
    obtain ⟨ik', d1, d2, d3⟩ := drop_K (N := N) (by omega) ik
    have hly := lays_L (nd := ndl') N 0 (upd (fun i => if 0 ≤ i ∧ i < 622 then (if 406 ≤ i then (-1 : Int32) else 0) else now i) 1 (-1)) (by omega) (by omega)
    rw [e4] at hly
    have c36 : ∀ {α : Type} (x : Option α), ck (cpo 0 0 36 36 36) x = x := fun x => cpoN (n := 36) (by omega) (by omega) (by omega)
    have k0 : ∀ {α : Type} (x : Option α), ck (inb 0 2) x = x := fun x => ckN (a := 0) (by omega) (by omega)
    have k1 : ∀ {α : Type} (x : Option α), ck (inb 1 2) x = x := fun x => ckN (a := 1) (by omega) (by omega)
    have z36 : ((36 : Int32)).toNatClampNeg = 36 := rfl
    obtain ⟨t1, t2, t3, t4, t5, t6, t7, t8, t9⟩ := id c3
    have hnn : nn' = qrn' := by rw [t1.2.2.1, t1.2.2.2]
    have hne : ne' = qre' := by obtain ⟨k, -, p1, p2⟩ := t2; rw [p1, p2]
    have hnh : nh' = qrh' := by obtain ⟨k, -, p1, p2⟩ := t3; rw [p1, p2]
    have hna : na' = qra' := by obtain ⟨k, -, -, p1, p2⟩ := t4; rw [p1, p2]
    have hnl : nl' = qrl' := by obtain ⟨k, -, -, p1, p2⟩ := t5; rw [p1, p2]
    have hnf : nf' = qrf' := by obtain ⟨k, -, p1, p2⟩ := t6; rw [p1, p2]
    refine ⟨nI it', nI it', a1, a2, a3, a4, qrn', qre', qrh', qra', qrl', qrf', qlt', qdl', nd', qrn', qre', qrh', qra', qrl', qrf', qlt', va_cpy qdl' dl 0 0 36, ik', (fun i => if 118 + 0 ≤ i ∧ i < 154 then ndl' (i - 118) else upd (fun i => if 0 ≤ i ∧ i < 622 then (if 406 ≤ i then (-1 : Int32) else 0) else now i) 1 (-1) i), upd (upd isk 0 0) 1 0, b1, b2, b3, qrn', qre', qrh', qra', qrl', qrf', nL', ndl', ?_, ?_, ⟨t1.1, t1.2.1, t1.2.2.1⟩, ?_, ?_, ?_, ?_, ?_, RK_new dl gs wn c3 (row := fun i => if 118 + 0 ≤ i ∧ i < 154 then ndl' (i - 118) else upd (fun i => if 0 ≤ i ∧ i < 622 then (if 406 ≤ i then (-1 : Int32) else 0) else now i) 1 (-1) i) (fun k hk => ?_), d2, d3, rfl, rfl⟩
    · show Option.bind (some (-1, nI it', a1, a2, a3, a4, qrn', qre', qrh', qra', qrl', qrf', qlt', qdl')) _ = _
      rw [Option.bind_some]
      dsimp only
      rw [if_pos rfl]
      unfold f_X7_copyFrom f_X1_restart f_X3_copyFrom
      rw [Option.bind_some, c36, Option.bind_some, Option.bind_some, d1, z0, z36]
      rfl
    · show Option.bind (f_X12_begins N now) _ = _
      unfold f_X12_begins
      rw [hbg, Option.bind_some]
      simp only [ck1, z1, z0, Option.bind_some]
      rw [hly, Option.bind_some, k0, k1, hnn, hne, hnh, hna, hnl, hnf]
    · obtain ⟨k, p0, p1, -⟩ := t2; exact ⟨k, p0, p1⟩
    · obtain ⟨k, p0, p1, -⟩ := t3; exact ⟨k, p0, p1⟩
    · obtain ⟨k, p0, p00, p1, -⟩ := t4; exact ⟨k, p0, p00, p1⟩
    · obtain ⟨k, p0, p00, p1, -⟩ := t5; exact ⟨k, p0, p00, p1⟩
    · obtain ⟨k, p0, p1, -⟩ := t6; exact ⟨k, p0, p1⟩
    · by_cases h1 : 118 ≤ k ∧ k < 154
      · rw [if_pos (by omega), if_pos h1]
      · rw [if_neg (by omega), if_neg h1]
        by_cases h2 : k = 1
        · subst h2; rw [pk_us, if_pos rfl]
        · rw [pk_un h2, if_neg h2, if_pos (by omega)]
