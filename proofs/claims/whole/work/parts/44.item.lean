/-! items of the text, on both sides -/
def sh (f : ar) : ar := fun k => f (k - 118)
def TR (nd it : Nat) (qrn qre qrh qra qrl qrf : Int32) (qdl : ar) (qlt : Int32) (nn ne nh na nl nf nL : Int32) (ndl : ar) : Prop := (2 ≤ nd ∧ nd ≤ 6 ∧ qrn = nI nd ∧ nn = nI nd) ∧ (∃ k : Nat, k ≤ 9 ∧ qre = nI k ∧ ne = nI k) ∧ (∃ k : Nat, k ≤ 3 ∧ qrh = nI k ∧ nh = nI k) ∧ (∃ k : Nat, 1 ≤ k ∧ k ≤ 99 ∧ qra = nI k ∧ na = nI k) ∧ (∃ k : Nat, 1 ≤ k ∧ k ≤ 99 ∧ qrl = nI k ∧ nl = nI k) ∧ (∃ k : Nat, k ≤ 99 ∧ qrf = nI k ∧ nf = nI k) ∧ LK nd qdl (sh ndl) ∧ (qlt = nI (cntF (lf (sh ndl)) 36 0) ∧ nL = qlt ∧ cntF (lf (sh ndl)) 36 0 ≤ 10) ∧ (it = 0 → ∀ k, k < 36 → qdl k = 0 ∧ ndl k = 0)
theorem TK.semi {kd nu tk : Int32} (h : TK kd nu tk) : kd = 59 ↔ tk = 59 := by
  rcases h with ⟨rfl, rfl⟩ | ⟨k, h1, rfl, -, rfl⟩ | ⟨rfl, rfl⟩ | ⟨k, h1, h2, rfl, rfl⟩
  · decide
  · constructor
    · intro h; exact absurd h (by decide)
    · intro h; exact absurd ((nI_eq (b := 59) (by omega) (by omega)).mp h) (by omega)
  · decide
  · exact Iff.rfl
theorem endK {len N : Nat} {c : Nat → Nat} {tx ty : ar} (hN : 130 ≤ N) (hT : TXT len c tx) (hU : TXT len c ty) {q : Nat} (hq : q ≤ len) (nu : Int32) : ∃ e kd nu' s q3 tk, f_X6_readEnd N tx (nI len) nu (nI q) = some (e, kd, nu', nI s, nI q3) ∧ f_X12_next N (nI len) ty (nI q) = some (nI q3, nI s, tk) ∧ (e = true ↔ tk = 59) ∧ q ≤ s ∧ s ≤ q3 ∧ q3 ≤ len ∧ (e = true → s < q3) := by
  obtain ⟨s, hs⟩ := Sk.ex len c (len - q) q (by omega)
  obtain ⟨kd, nu', q3, tk, h1, h2, h3, h4, h5, h6⟩ := token hN hT hU hs hs nu
  have h7 := h3.semi
  unfold f_X6_readEnd
  rw [h1, Option.bind_some]
  dsimp only
  by_cases hk : kd = 59
  · rw [if_pos hk]
    refine ⟨true, kd, nu', s, q3, tk, rfl, h2, ⟨fun _ => h7.mp hk, fun _ => rfl⟩, hs.1, h4, h5, fun _ => ?_⟩
    rcases h6 with ⟨a, -⟩ | ⟨-, -, a⟩
    · rw [a] at hk; exact absurd hk (by decide)
    · exact a
  · rw [if_neg hk]
    exact ⟨false, kd, nu', s, q3, tk, rfl, h2, ⟨fun h => (by cases h), fun h => absurd (h7.mpr h) hk⟩, hs.1, h4, h5, fun h => by cases h⟩
/-- how an item ends, on both sides -/
def IG (len N it q : Nat) (tx : ar) (IC : Option (Bool × Int32 × Int32 × Int32 × Int32 × Int32 × Int32 × Int32 × Int32 × Int32 × Int32 × Int32 × ar)) (IR : Option (Bool × Int32 × Int32 × Int32 × Int32 × Int32 × Int32 × Int32 × Int32 × Int32 × Int32 × ar)) : Prop :=
  (∃ (pf : Nat) (R : Int32 × Int32 × Int32 × Int32 × Int32 × Int32 × Int32 × Int32 × Int32 × Int32 × Int32 × ar) (R' : Int32 × Int32 × Int32 × Int32 × Int32 × Int32 × Int32 × Int32 × Int32 × Int32 × ar), IC = some (false, R) ∧ R.2.2.1 = nI pf ∧ IR = some (false, R') ∧ R'.2.1 = nI pf ∧ pf ≤ len) ∨
  (∃ (kd2 nu2 pl2 : Int32) (q2 : Nat) (qrn qre qrh qra qrl qrf qlt : Int32) (qdl : ar), IC = some (true, kd2, nu2, pl2, nI q2, qrn, qre, qrh, qra, qrl, qrf, qlt, qdl) ∧ q ≤ q2 ∧ q2 ≤ len ∧
    ((∃ (pf : Nat) (R5 : Int32 × Int32 × Int32 × Int32) (R' : Int32 × Int32 × Int32 × Int32 × Int32 × Int32 × Int32 × Int32 × Int32 × Int32 × ar), f_X6_readEnd N tx (nI len) nu2 (nI q2) = some (false, R5) ∧ R5.2.2.1 = nI pf ∧ IR = some (false, R') ∧ R'.2.1 = nI pf ∧ pf ≤ len) ∨
     (∃ (kd3 nu3 pl3 : Int32) (q3 : Nat) (t1 t2 : Int32) (nd' : Nat) (nn ne nh na nl nf nL : Int32) (ndl : ar), f_X6_readEnd N tx (nI len) nu2 (nI q2) = some (true, kd3, nu3, pl3, nI q3) ∧ IR = some (true, nI q3, t1, t2, nn, ne, nh, na, nl, nf, nL, ndl) ∧ q2 < q3 ∧ q3 ≤ len ∧ TR nd' (it + 1) qrn qre qrh qra qrl qrf qdl qlt nn ne nh na nl nf nL ndl)))
theorem IG.fin {len N it q : Nat} {c : Nat → Nat} {tx ty : ar} (hN : 130 ≤ N) (hT : TXT len c tx) (hU : TXT len c ty) {IC : Option (Bool × Int32 × Int32 × Int32 × Int32 × Int32 × Int32 × Int32 × Int32 × Int32 × Int32 × Int32 × ar)} {IR : Option (Bool × Int32 × Int32 × Int32 × Int32 × Int32 × Int32 × Int32 × Int32 × Int32 × Int32 × ar)} {kd2 nu2 pl2 : Int32} {q2 : Nat} {qrn qre qrh qra qrl qrf qlt : Int32} {qdl : ar} {nd' : Nat} {nn ne nh na nl nf nL : Int32} {ndl : ar} (h1 : q ≤ q2) (h2 : q2 ≤ len) (hC : IC = some (true, kd2, nu2, pl2, nI q2, qrn, qre, qrh, qra, qrl, qrf, qlt, qdl)) (hR : IR = Option.bind (f_X12_next N (nI len) ty (nI q2)) fun r => if r.2.2 = 59 then some (true, r.1, r.2.1, r.2.2, nn, ne, nh, na, nl, nf, nL, ndl) else some (false, r.1, r.2.1, r.2.2, nn, ne, nh, na, nl, nf, nL, ndl)) (hTR : TR nd' (it + 1) qrn qre qrh qra qrl qrf qdl qlt nn ne nh na nl nf nL ndl) : IG len N it q tx IC IR := by
  obtain ⟨e, kd, nu', s, q3, tk, a1, a2, a3, a4, a5, a6, a7⟩ := endK hN hT hU h2 nu2
  refine Or.inr ⟨kd2, nu2, pl2, q2, qrn, qre, qrh, qra, qrl, qrf, qlt, qdl, hC, h1, h2, ?_⟩
  rw [hR, a2, Option.bind_some]
  dsimp only
  cases e with
  | true =>
    rw [if_pos (a3.mp rfl)]
    exact Or.inr ⟨kd, nu', nI s, q3, nI s, tk, nd', nn, ne, nh, na, nl, nf, nL, ndl, a1, rfl, by have := a7 rfl; omega, a6, hTR⟩
  | false =>
    rw [if_neg (fun h => by have := a3.mpr h; cases this)]
    exact Or.inl ⟨s, (kd, nu', nI s, nI q3), _, a1, rfl, rfl, rfl, by omega⟩
theorem n1000 {k : Nat} : nI (1000 + k) - 1000 = nI k := by
  have := pk_sub (a := 1000 + k) (b := 1000) (by omega)
  have e : nI 1000 = 1000 := rfl
  rw [e] at this
  rw [this, show 1000 + k - 1000 = k by omega]
theorem LK.zero {dl row : ar} (nd : Nat) (h1 : ∀ k, k < 36 → dl k = 0) (h2 : ∀ k, k < 36 → row (118 + k) = 0) : LK nd dl row := by
  refine ⟨fun u v hu hv _ => by rw [h1 _ (by omega), h2 _ (pr_lt hu hv)], fun u hu => h1 _ (by omega), fun u v hu hv _ => h2 _ (by omega), fun u v hu hv => ?_, fun u v hu hv _ => h1 _ (by omega)⟩
  rw [h1 _ (by omega), i0]
  omega
theorem item_a {len N it : Nat} {c : Nat → Nat} {tx ty : ar} (hN : 130 ≤ N) (hT : TXT len c tx) (hU : TXT len c ty) {nd q s : Nat} {qrn qre qrh qra qrl qrf : Int32} {qdl : ar} {qlt nn ne nh na nl nf nL : Int32} {ndl : ar} (hq : q ≤ len) (hsl : s ≤ len) (hTR : TR nd it qrn qre qrh qra qrl qrf qdl qlt nn ne nh na nl nf nL ndl) (nu : Int32) {p : Nat} (hnx : f_X12_next N (nI len) ty (nI p) = some (nI q, nI s, 97)) : IG len N it q tx (f_X6_readItem N tx (nI len) qrn qre qrh qra qrl qrf qdl qlt (nI it) 97 nu (nI s) (nI q)) (f_X12_readsItem N (nI len) ty (nI p) nn ne nh na nl nf nL ndl (nI it)) := by
  obtain ⟨s2, hs2⟩ := Sk.ex len c (len - q) q (by omega)
  obtain ⟨b, kd, nu', q2, tk, a1, a2, a3, a4, a5⟩ := number hN hT hU hs2 hs2 nu (lo := 1) (hi := 99) (by omega) (by omega)
  have l1 : f_X6_lowestOf 97 = some (nI 1) := by decide
  have l2 : f_X6_highestOf 97 = some (nI 99) := by decide
  have e1 : f_X12_isNumber N (nI len) ty (nI q) 1 99 = some (b, nI q2, nI s2, tk) := a2
  have hs21 := hs2.1
  have hs22 := hs2.2.1
  obtain ⟨t1, t2, t3, t4, t5, t6, t7, t8, t9⟩ := hTR
  unfold f_X6_readItem f_X12_readsItem f_X6_readRule
  rw [hnx, Option.bind_some]
  dsimp only
  rw [if_pos (show (97 : Int32) = 97 from rfl)]
  rw [if_pos (show (97 : Int32) = 97 from rfl)]
  rw [l1, Option.bind_some, l2, Option.bind_some, a1, e1, Option.bind_some, Option.bind_some]
  dsimp only
  cases b with
  | false =>
    rw [if_pos (show b2i false = 0 from rfl), if_pos (show b2i false = 0 from rfl), Option.bind_some]
    exact Or.inl ⟨s2, _, _, rfl, rfl, rfl, rfl, hs22⟩
  | true =>
    obtain ⟨k, k1, k2, k3, k4⟩ := a5 rfl
    rw [if_neg (show ¬ b2i true = 0 from by decide), if_neg (show ¬ b2i true = 0 from by decide)]
    rw [if_neg (show ¬ (97 : Int32) = 120 from by decide), if_neg (show ¬ (97 : Int32) = 104 from by decide), if_pos (show (97 : Int32) = 97 from rfl), Option.bind_some]
    dsimp only
    rw [k4, n1000]
    exact IG.fin (nd' := nd) (q2 := q2) hN hT hU (by omega) a4 rfl rfl ⟨t1, t2, t3, ⟨k, by omega, by omega, k3, rfl⟩, t5, t6, t7, t8, fun h => by omega⟩
theorem item_f {len N it : Nat} {c : Nat → Nat} {tx ty : ar} (hN : 130 ≤ N) (hT : TXT len c tx) (hU : TXT len c ty) {nd q s : Nat} {qrn qre qrh qra qrl qrf : Int32} {qdl : ar} {qlt nn ne nh na nl nf nL : Int32} {ndl : ar} (hq : q ≤ len) (hsl : s ≤ len) (hTR : TR nd it qrn qre qrh qra qrl qrf qdl qlt nn ne nh na nl nf nL ndl) (nu : Int32) {p : Nat} (hnx : f_X12_next N (nI len) ty (nI p) = some (nI q, nI s, 102)) : IG len N it q tx (f_X6_readItem N tx (nI len) qrn qre qrh qra qrl qrf qdl qlt (nI it) 102 nu (nI s) (nI q)) (f_X12_readsItem N (nI len) ty (nI p) nn ne nh na nl nf nL ndl (nI it)) := by
  obtain ⟨s2, hs2⟩ := Sk.ex len c (len - q) q (by omega)
  obtain ⟨b, kd, nu', q2, tk, a1, a2, a3, a4, a5⟩ := number hN hT hU hs2 hs2 nu (lo := 0) (hi := 99) (by omega) (by omega)
  have l1 : f_X6_lowestOf 102 = some (nI 0) := by decide
  have l2 : f_X6_highestOf 102 = some (nI 99) := by decide
  have e1 : f_X12_isNumber N (nI len) ty (nI q) 0 99 = some (b, nI q2, nI s2, tk) := a2
  have hs21 := hs2.1
  have hs22 := hs2.2.1
  obtain ⟨t1, t2, t3, t4, t5, t6, t7, t8, t9⟩ := hTR
  unfold f_X6_readItem f_X12_readsItem f_X6_readRule
  rw [hnx, Option.bind_some]
  dsimp only
  rw [if_neg (show ¬ (102 : Int32) = 97 from by decide), if_neg (show ¬ (102 : Int32) = 101 from by decide), if_pos (show (102 : Int32) = 102 from rfl)]
  rw [if_neg (show ¬ (102 : Int32) = 97 from by decide), if_neg (show ¬ (102 : Int32) = 101 from by decide), if_pos (show (102 : Int32) = 102 from rfl)]
  rw [l1, Option.bind_some, l2, Option.bind_some, a1, e1, Option.bind_some, Option.bind_some]
  dsimp only
  cases b with
  | false =>
    rw [if_pos (show b2i false = 0 from rfl), if_pos (show b2i false = 0 from rfl), Option.bind_some]
    exact Or.inl ⟨s2, _, _, rfl, rfl, rfl, rfl, hs22⟩
  | true =>
    obtain ⟨k, k1, k2, k3, k4⟩ := a5 rfl
    rw [if_neg (show ¬ b2i true = 0 from by decide), if_neg (show ¬ b2i true = 0 from by decide)]
    rw [if_neg (show ¬ (102 : Int32) = 120 from by decide), if_neg (show ¬ (102 : Int32) = 104 from by decide), if_neg (show ¬ (102 : Int32) = 97 from by decide), if_neg (show ¬ (102 : Int32) = 108 from by decide), Option.bind_some]
    dsimp only
    rw [k4, n1000]
    exact IG.fin (nd' := nd) (q2 := q2) hN hT hU (by omega) a4 rfl rfl ⟨t1, t2, t3, t4, t5, ⟨k, by omega, k3, rfl⟩, t7, t8, fun h => by omega⟩
theorem item_h {len N it : Nat} {c : Nat → Nat} {tx ty : ar} (hN : 130 ≤ N) (hT : TXT len c tx) (hU : TXT len c ty) {nd q s : Nat} {qrn qre qrh qra qrl qrf : Int32} {qdl : ar} {qlt nn ne nh na nl nf nL : Int32} {ndl : ar} (hq : q ≤ len) (hsl : s ≤ len) (hTR : TR nd it qrn qre qrh qra qrl qrf qdl qlt nn ne nh na nl nf nL ndl) (nu : Int32) {p : Nat} (hnx : f_X12_next N (nI len) ty (nI p) = some (nI q, nI s, 104)) : IG len N it q tx (f_X6_readItem N tx (nI len) qrn qre qrh qra qrl qrf qdl qlt (nI it) 104 nu (nI s) (nI q)) (f_X12_readsItem N (nI len) ty (nI p) nn ne nh na nl nf nL ndl (nI it)) := by
  obtain ⟨s2, hs2⟩ := Sk.ex len c (len - q) q (by omega)
  obtain ⟨b, kd, nu', q2, tk, a1, a2, a3, a4, a5⟩ := number hN hT hU hs2 hs2 nu (lo := 0) (hi := 3) (by omega) (by omega)
  have l1 : f_X6_lowestOf 104 = some (nI 0) := by decide
  have l2 : f_X6_highestOf 104 = some (nI 3) := by decide
  have e1 : f_X12_isNumber N (nI len) ty (nI q) 0 3 = some (b, nI q2, nI s2, tk) := a2
  have hs21 := hs2.1
  have hs22 := hs2.2.1
  obtain ⟨t1, t2, t3, t4, t5, t6, t7, t8, t9⟩ := hTR
  unfold f_X6_readItem f_X12_readsItem f_X6_readRule
  rw [hnx, Option.bind_some]
  dsimp only
  rw [if_neg (show ¬ (104 : Int32) = 97 from by decide), if_neg (show ¬ (104 : Int32) = 101 from by decide), if_neg (show ¬ (104 : Int32) = 102 from by decide), if_pos (show (104 : Int32) = 104 from rfl)]
  rw [if_neg (show ¬ (104 : Int32) = 97 from by decide), if_neg (show ¬ (104 : Int32) = 101 from by decide), if_neg (show ¬ (104 : Int32) = 102 from by decide), if_pos (show (104 : Int32) = 104 from rfl)]
  rw [l1, Option.bind_some, l2, Option.bind_some, a1, e1, Option.bind_some, Option.bind_some]
  dsimp only
  cases b with
  | false =>
    rw [if_pos (show b2i false = 0 from rfl), if_pos (show b2i false = 0 from rfl), Option.bind_some]
    exact Or.inl ⟨s2, _, _, rfl, rfl, rfl, rfl, hs22⟩
  | true =>
    obtain ⟨k, k1, k2, k3, k4⟩ := a5 rfl
    rw [if_neg (show ¬ b2i true = 0 from by decide), if_neg (show ¬ b2i true = 0 from by decide)]
    rw [if_neg (show ¬ (104 : Int32) = 120 from by decide), if_pos (show (104 : Int32) = 104 from rfl), Option.bind_some]
    dsimp only
    rw [k4, n1000]
    exact IG.fin (nd' := nd) (q2 := q2) hN hT hU (by omega) a4 rfl rfl ⟨t1, t2, ⟨k, by omega, k3, rfl⟩, t4, t5, t6, t7, t8, fun h => by omega⟩
theorem item_l {len N it : Nat} {c : Nat → Nat} {tx ty : ar} (hN : 130 ≤ N) (hT : TXT len c tx) (hU : TXT len c ty) {nd q s : Nat} {qrn qre qrh qra qrl qrf : Int32} {qdl : ar} {qlt nn ne nh na nl nf nL : Int32} {ndl : ar} (hq : q ≤ len) (hsl : s ≤ len) (hTR : TR nd it qrn qre qrh qra qrl qrf qdl qlt nn ne nh na nl nf nL ndl) (nu : Int32) {p : Nat} (hnx : f_X12_next N (nI len) ty (nI p) = some (nI q, nI s, 108)) : IG len N it q tx (f_X6_readItem N tx (nI len) qrn qre qrh qra qrl qrf qdl qlt (nI it) 108 nu (nI s) (nI q)) (f_X12_readsItem N (nI len) ty (nI p) nn ne nh na nl nf nL ndl (nI it)) := by
  obtain ⟨s2, hs2⟩ := Sk.ex len c (len - q) q (by omega)
  obtain ⟨b, kd, nu', q2, tk, a1, a2, a3, a4, a5⟩ := number hN hT hU hs2 hs2 nu (lo := 1) (hi := 99) (by omega) (by omega)
  have l1 : f_X6_lowestOf 108 = some (nI 1) := by decide
  have l2 : f_X6_highestOf 108 = some (nI 99) := by decide
  have e1 : f_X12_isNumber N (nI len) ty (nI q) 1 99 = some (b, nI q2, nI s2, tk) := a2
  have hs21 := hs2.1
  have hs22 := hs2.2.1
  obtain ⟨t1, t2, t3, t4, t5, t6, t7, t8, t9⟩ := hTR
  unfold f_X6_readItem f_X12_readsItem f_X6_readRule
  rw [hnx, Option.bind_some]
  dsimp only
  rw [if_neg (show ¬ (108 : Int32) = 97 from by decide), if_neg (show ¬ (108 : Int32) = 101 from by decide), if_neg (show ¬ (108 : Int32) = 102 from by decide), if_neg (show ¬ (108 : Int32) = 104 from by decide), if_pos (show (108 : Int32) = 108 from rfl)]
  rw [if_neg (show ¬ (108 : Int32) = 97 from by decide), if_neg (show ¬ (108 : Int32) = 101 from by decide), if_neg (show ¬ (108 : Int32) = 102 from by decide), if_neg (show ¬ (108 : Int32) = 104 from by decide), if_pos (show (108 : Int32) = 108 from rfl)]
  rw [l1, Option.bind_some, l2, Option.bind_some, a1, e1, Option.bind_some, Option.bind_some]
  dsimp only
  cases b with
  | false =>
    rw [if_pos (show b2i false = 0 from rfl), if_pos (show b2i false = 0 from rfl), Option.bind_some]
    exact Or.inl ⟨s2, _, _, rfl, rfl, rfl, rfl, hs22⟩
  | true =>
    obtain ⟨k, k1, k2, k3, k4⟩ := a5 rfl
    rw [if_neg (show ¬ b2i true = 0 from by decide), if_neg (show ¬ b2i true = 0 from by decide)]
    rw [if_neg (show ¬ (108 : Int32) = 120 from by decide), if_neg (show ¬ (108 : Int32) = 104 from by decide), if_neg (show ¬ (108 : Int32) = 97 from by decide), if_pos (show (108 : Int32) = 108 from rfl), Option.bind_some]
    dsimp only
    rw [k4, n1000]
    exact IG.fin (nd' := nd) (q2 := q2) hN hT hU (by omega) a4 rfl rfl ⟨t1, t2, t3, t4, ⟨k, by omega, by omega, k3, rfl⟩, t6, t7, t8, fun h => by omega⟩
theorem item_x {len N it : Nat} {c : Nat → Nat} {tx ty : ar} (hN : 130 ≤ N) (hT : TXT len c tx) (hU : TXT len c ty) {nd q s : Nat} {qrn qre qrh qra qrl qrf : Int32} {qdl : ar} {qlt nn ne nh na nl nf nL : Int32} {ndl : ar} (hq : q ≤ len) (hsl : s ≤ len) (hTR : TR nd it qrn qre qrh qra qrl qrf qdl qlt nn ne nh na nl nf nL ndl) (nu : Int32) {p : Nat} (hnx : f_X12_next N (nI len) ty (nI p) = some (nI q, nI s, 120)) : IG len N it q tx (f_X6_readItem N tx (nI len) qrn qre qrh qra qrl qrf qdl qlt (nI it) 120 nu (nI s) (nI q)) (f_X12_readsItem N (nI len) ty (nI p) nn ne nh na nl nf nL ndl (nI it)) := by
  obtain ⟨s2, hs2⟩ := Sk.ex len c (len - q) q (by omega)
  obtain ⟨b, kd, nu', q2, tk, a1, a2, a3, a4, a5⟩ := number hN hT hU hs2 hs2 nu (lo := 0) (hi := 9) (by omega) (by omega)
  have l1 : f_X6_lowestOf 120 = some (nI 0) := by decide
  have l2 : f_X6_highestOf 120 = some (nI 9) := by decide
  have e1 : f_X12_isNumber N (nI len) ty (nI q) 0 9 = some (b, nI q2, nI s2, tk) := a2
  have hs21 := hs2.1
  have hs22 := hs2.2.1
  obtain ⟨t1, t2, t3, t4, t5, t6, t7, t8, t9⟩ := hTR
  unfold f_X6_readItem f_X12_readsItem f_X6_readRule
  rw [hnx, Option.bind_some]
  dsimp only
  rw [if_neg (show ¬ (120 : Int32) = 97 from by decide), if_neg (show ¬ (120 : Int32) = 101 from by decide), if_neg (show ¬ (120 : Int32) = 102 from by decide), if_neg (show ¬ (120 : Int32) = 104 from by decide), if_neg (show ¬ (120 : Int32) = 108 from by decide), if_neg (show ¬ (120 : Int32) = 110 from by decide), if_pos (show (120 : Int32) = 120 from rfl)]
  rw [if_neg (show ¬ (120 : Int32) = 97 from by decide), if_neg (show ¬ (120 : Int32) = 101 from by decide), if_neg (show ¬ (120 : Int32) = 102 from by decide), if_neg (show ¬ (120 : Int32) = 104 from by decide), if_neg (show ¬ (120 : Int32) = 108 from by decide), if_neg (show ¬ (120 : Int32) = 110 from by decide), if_pos (show (120 : Int32) = 120 from rfl)]
  rw [l1, Option.bind_some, l2, Option.bind_some, a1, e1, Option.bind_some, Option.bind_some]
  dsimp only
  cases b with
  | false =>
    rw [if_pos (show b2i false = 0 from rfl), if_pos (show b2i false = 0 from rfl), Option.bind_some]
    exact Or.inl ⟨s2, _, _, rfl, rfl, rfl, rfl, hs22⟩
  | true =>
    obtain ⟨k, k1, k2, k3, k4⟩ := a5 rfl
    rw [if_neg (show ¬ b2i true = 0 from by decide), if_neg (show ¬ b2i true = 0 from by decide)]
    rw [if_pos (show (120 : Int32) = 120 from rfl), Option.bind_some]
    dsimp only
    rw [k4, n1000]
    exact IG.fin (nd' := nd) (q2 := q2) hN hT hU (by omega) a4 rfl rfl ⟨t1, ⟨k, by omega, k3, rfl⟩, t3, t4, t5, t6, t7, t8, fun h => by omega⟩
theorem item_n {len N it : Nat} {c : Nat → Nat} {tx ty : ar} (hN : 130 ≤ N) (hT : TXT len c tx) (hU : TXT len c ty) {nd q s : Nat} {qrn qre qrh qra qrl qrf : Int32} {qdl : ar} {qlt nn ne nh na nl nf nL : Int32} {ndl : ar} (hq : q ≤ len) (hsl : s ≤ len) (hTR : TR nd it qrn qre qrh qra qrl qrf qdl qlt nn ne nh na nl nf nL ndl) (nu : Int32) {p : Nat} (hit : it < 2147483648) (hnx : f_X12_next N (nI len) ty (nI p) = some (nI q, nI s, 110)) : IG len N it q tx (f_X6_readItem N tx (nI len) qrn qre qrh qra qrl qrf qdl qlt (nI it) 110 nu (nI s) (nI q)) (f_X12_readsItem N (nI len) ty (nI p) nn ne nh na nl nf nL ndl (nI it)) := by
  obtain ⟨s2, hs2⟩ := Sk.ex len c (len - q) q (by omega)
  obtain ⟨b, kd, nu', q2, tk, a1, a2, a3, a4, a5⟩ := number hN hT hU hs2 hs2 nu (lo := 2) (hi := 6) (by omega) (by omega)
  have e0 : f_X6_readNumber N tx (nI len) nu (nI q) 2 6 = some (b, kd, nu', nI s2, nI q2) := a1
  have e1 : f_X12_isNumber N (nI len) ty (nI q) 2 6 = some (b, nI q2, nI s2, tk) := a2
  have hs21 := hs2.1
  have hs22 := hs2.2.1
  obtain ⟨t1, t2, t3, t4, t5, t6, t7, t8, t9⟩ := hTR
  unfold f_X6_readItem f_X12_readsItem f_X6_readNodes
  rw [hnx, Option.bind_some]
  dsimp only
  rw [if_neg (show ¬ (110 : Int32) = 97 from by decide), if_neg (show ¬ (110 : Int32) = 101 from by decide), if_neg (show ¬ (110 : Int32) = 102 from by decide), if_neg (show ¬ (110 : Int32) = 104 from by decide), if_neg (show ¬ (110 : Int32) = 108 from by decide), if_pos (show (110 : Int32) = 110 from rfl)]
  rw [if_neg (show ¬ (110 : Int32) = 97 from by decide), if_neg (show ¬ (110 : Int32) = 101 from by decide), if_neg (show ¬ (110 : Int32) = 102 from by decide), if_neg (show ¬ (110 : Int32) = 104 from by decide), if_neg (show ¬ (110 : Int32) = 108 from by decide), if_pos (show (110 : Int32) = 110 from rfl)]
  by_cases h0 : it = 0
  · subst h0
    rw [if_pos (show nI 0 = 0 from rfl), if_pos (show nI 0 = 0 from rfl), e0, e1, Option.bind_some, Option.bind_some]
    dsimp only
    cases b with
    | false =>
      rw [if_pos (show b2i false = 0 from rfl), if_pos (show b2i false = 0 from rfl), Option.bind_some, Option.bind_some]
      dsimp only
      rw [if_pos (show b2i false = 0 from rfl), if_pos (show (0 : Int32) = 0 from rfl), Option.bind_some, if_pos (show (0 : Int32) = 0 from rfl)]
      exact Or.inl ⟨s2, _, _, rfl, rfl, rfl, rfl, hs22⟩
    | true =>
      obtain ⟨k, k1, k2, k3, k4⟩ := a5 rfl
      rw [if_neg (show ¬ b2i true = 0 from by decide), if_neg (show ¬ b2i true = 0 from by decide), Option.bind_some, Option.bind_some]
      dsimp only
      rw [if_neg (show ¬ b2i true = 0 from by decide), if_neg (show ¬ (1 : Int32) = 0 from by decide), Option.bind_some, if_neg (show ¬ (1 : Int32) = 0 from by decide), k4, n1000]
      have z := t9 rfl
      exact IG.fin (nd' := k) (q2 := q2) hN hT hU (by omega) a4 rfl rfl ⟨⟨k1, k2, k3, rfl⟩, t2, t3, t4, t5, t6, LK.zero k (fun j hj => (z j hj).1) (fun j hj => by show ndl (118 + j - 118) = 0; rw [show 118 + j - 118 = j by omega]; exact (z j hj).2), t8, fun h => by omega⟩
  · have hz : ¬ nI it = 0 := nI_ne0 (by omega) hit
    rw [if_neg hz, if_neg hz, Option.bind_some]
    dsimp only
    rw [if_pos (show (0 : Int32) = 0 from rfl), Option.bind_some, if_pos (show (0 : Int32) = 0 from rfl)]
    exact Or.inl ⟨s, _, _, rfl, rfl, rfl, rfl, hsl⟩
theorem item_e {len N it : Nat} {c : Nat → Nat} {tx ty : ar} (hN : 130 ≤ N) (hT : TXT len c tx) (hU : TXT len c ty) {nd q s : Nat} {qrn qre qrh qra qrl qrf : Int32} {qdl : ar} {qlt nn ne nh na nl nf nL : Int32} {ndl : ar} (hq : q ≤ len) (hsl : s ≤ len) (hTR : TR nd it qrn qre qrh qra qrl qrf qdl qlt nn ne nh na nl nf nL ndl) (nu : Int32) {p : Nat} (hnx : f_X12_next N (nI len) ty (nI p) = some (nI q, nI s, 101)) : IG len N it q tx (f_X6_readItem N tx (nI len) qrn qre qrh qra qrl qrf qdl qlt (nI it) 101 nu (nI s) (nI q)) (f_X12_readsItem N (nI len) ty (nI p) nn ne nh na nl nf nL ndl (nI it)) := by
  obtain ⟨t1, t2, t3, t4, t5, t6, t7, ⟨t8, t8b, t8c⟩, t9⟩ := hTR
  obtain ⟨d1, d2, d3, d4⟩ := t1
  subst d3; subst d4; subst t8b
  unfold f_X6_readItem f_X12_readsItem
  rw [hnx, Option.bind_some]
  dsimp only
  rw [if_neg (show ¬ (101 : Int32) = 97 from by decide), if_pos (show (101 : Int32) = 101 from rfl)]
  rw [if_neg (show ¬ (101 : Int32) = 97 from by decide), if_pos (show (101 : Int32) = 101 from rfl)]
  unfold f_X12_readsLink f_X6_readLink
  have hm1 : nI nd - 1 = nI (nd - 1) := by
    obtain ⟨m, rfl⟩ : ∃ m, nd = m + 1 := ⟨nd - 1, by omega⟩
    exact nI_pred m
  rw [hm1]
  by_cases hfull : cntF (lf (sh ndl)) 36 0 = 10
  · have f1 : (10 : Int32) ≤ nL := by rw [t8, hfull]; decide
    have f2 : nL = 10 := by rw [t8, hfull]; rfl
    rw [if_pos f1, if_pos f2, Option.bind_some]
    dsimp only
    rw [if_pos (show b2i false = 0 from rfl)]
    exact Or.inl ⟨s, _, _, rfl, rfl, rfl, rfl, hsl⟩
  · have f1 : ¬ (10 : Int32) ≤ nL := by rw [t8]; exact nI_ge (b := 10) (by omega) (by omega)
    have f2 : ¬ nL = 10 := by rw [t8]; exact fun e => hfull ((nI_eq (b := 10) (by omega) (by omega)).mp e)
    rw [if_neg f1, if_neg f2]
    obtain ⟨s2, hs2⟩ := Sk.ex len c (len - q) q (by omega)
    have hs21 := hs2.1
    have hs22 := hs2.2.1
    obtain ⟨b, kd, nu', q2, tk, a1, a2, a3, a4, a5⟩ := number hN hT hU hs2 hs2 nu (lo := 0) (hi := nd - 1) (by omega) (by omega)
    have e0 : f_X6_readNumber N tx (nI len) nu (nI q) 0 (nI (nd - 1)) = some (b, kd, nu', nI s2, nI q2) := a1
    have e1 : f_X12_isNumber N (nI len) ty (nI q) 0 (nI (nd - 1)) = some (b, nI q2, nI s2, tk) := a2
    rw [e0, e1, Option.bind_some, Option.bind_some]
    dsimp only
    cases b with
    | false =>
      rw [if_pos (show b2i false = 0 from rfl), if_pos (show b2i false = 0 from rfl), Option.bind_some, Option.bind_some]
      dsimp only
      rw [if_pos (show b2i false = 0 from rfl), if_pos (show b2i false = 0 from rfl)]
      exact Or.inl ⟨s2, _, _, rfl, rfl, rfl, rfl, hs22⟩
    | true =>
      obtain ⟨u, u1, u2, u3, u4⟩ := a5 rfl
      subst u3; subst u4
      rw [if_neg (show ¬ b2i true = 0 from by decide), if_neg (show ¬ b2i true = 0 from by decide), n1000]
      obtain ⟨s3, hs3⟩ := Sk.ex len c (len - q2) q2 (by omega)
      have hs31 := hs3.1
      have hs32 := hs3.2.1
      obtain ⟨b2, kd2, nu2, q3, tk2, g1, g2, g3, g4, g5⟩ := number hN hT hU hs3 hs3 (nI u) (lo := 0) (hi := nd - 1) (by omega) (by omega)
      have e2 : f_X6_readNumber N tx (nI len) (nI u) (nI q2) 0 (nI (nd - 1)) = some (b2, kd2, nu2, nI s3, nI q3) := g1
      have e3 : f_X12_isNumber N (nI len) ty (nI q2) 0 (nI (nd - 1)) = some (b2, nI q3, nI s3, tk2) := g2
      rw [e2, e3, Option.bind_some, Option.bind_some]
      dsimp only
      cases b2 with
      | false =>
        rw [if_pos (show b2i false = 0 from rfl), if_pos (show b2i false = 0 from rfl), Option.bind_some, Option.bind_some]
        dsimp only
        rw [if_pos (show b2i false = 0 from rfl), if_pos (show b2i false = 0 from rfl)]
        exact Or.inl ⟨s3, _, _, rfl, rfl, rfl, rfl, hs32⟩
      | true =>
        obtain ⟨v, v1, v2, v3, v4⟩ := g5 rfl
        subst v3; subst v4
        rw [if_neg (show ¬ b2i true = 0 from by decide), if_neg (show ¬ b2i true = 0 from by decide), n1000]
        by_cases huv : nI v = nI u
        · rw [if_pos huv, if_pos huv, Option.bind_some, Option.bind_some]
          dsimp only
          rw [if_pos (show b2i false = 0 from rfl), if_pos (show b2i false = 0 from rfl)]
          exact Or.inl ⟨s3, _, _, rfl, rfl, rfl, rfl, hs32⟩
        · have hne : u ≠ v := fun e => huv (by rw [e])
          have hp36 := pr_lt (show u < 6 by omega) (show v < 6 by omega)
          have hdl := t7.1 u v (by omega) (by omega) hne
          have hsh : sh ndl (118 + pr u v) = ndl (pr u v) := by show ndl (118 + pr u v - 118) = _; rw [show 118 + pr u v - 118 = pr u v by omega]
          rw [hsh] at hdl
          have h4 := t7.2.2.2.1 u v (by omega) (by omega)
          rw [if_neg huv, if_neg huv, delayOf_N (show u < 6 by omega) (show v < 6 by omega), Option.bind_some, pair_N (show u < 6 by omega) (show v < 6 by omega), Option.bind_some, hdl]
          simp (disch := omega) only [ckN, clN]
          by_cases hpos : 0 < ndl (pr u v)
          · have hpos2 : ¬ ndl (pr u v) ≤ 0 := by rw [nle0]; have := Int32.lt_iff_toInt_lt.mp hpos; rw [i0] at this; omega
            rw [if_pos hpos, if_neg hpos2, Option.bind_some, Option.bind_some]
            dsimp only
            rw [if_pos (show b2i false = 0 from rfl), if_pos (show b2i false = 0 from rfl)]
            exact Or.inl ⟨s3, _, _, rfl, rfl, rfl, rfl, hs32⟩
          · have hpos2 : ndl (pr u v) ≤ 0 := by rw [nle0]; intro q; exact hpos (Int32.lt_iff_toInt_lt.mpr (by rw [i0]; exact q))
            have hz : ndl (pr u v) = 0 := by
              rw [hdl] at h4
              apply Int32.toInt_inj.mp
              rw [i0]
              rw [nle0] at hpos2
              omega
            rw [if_neg hpos, if_pos hpos2]
            obtain ⟨s4, hs4⟩ := Sk.ex len c (len - q3) q3 (by omega)
            have hs41 := hs4.1
            have hs42 := hs4.2.1
            obtain ⟨b3, kd3, nu3, q4, tk3, j1, j2, j3, j4, j5⟩ := number hN hT hU hs4 hs4 (nI v) (lo := 1) (hi := 9) (by omega) (by omega)
            have e4 : f_X6_readNumber N tx (nI len) (nI v) (nI q3) 1 9 = some (b3, kd3, nu3, nI s4, nI q4) := j1
            have e5 : f_X12_isNumber N (nI len) ty (nI q3) 1 9 = some (b3, nI q4, nI s4, tk3) := j2
            rw [e4, e5, Option.bind_some, Option.bind_some]
            dsimp only
            cases b3 with
            | false =>
              rw [if_pos (show b2i false = 0 from rfl), if_pos (show b2i false = 0 from rfl), Option.bind_some, Option.bind_some]
              dsimp only
              rw [if_pos (show b2i false = 0 from rfl), if_pos (show b2i false = 0 from rfl)]
              exact Or.inl ⟨s4, _, _, rfl, rfl, rfl, rfl, hs42⟩
            | true =>
              obtain ⟨d, w1, w2, w3, w4⟩ := j5 rfl
              subst w3; subst w4
              have hz0 := hz
              rw [if_neg (show ¬ b2i true = 0 from by decide), if_neg (show ¬ b2i true = 0 from by decide), n1000, put_N (show u < 6 by omega) (show v < 6 by omega), Option.bind_some, Option.bind_some, Option.bind_some]
              dsimp only
              rw [ckN hp36 (by omega), clN (by omega), Option.bind_some]
              dsimp only
              rw [if_neg (show ¬ b2i true = 0 from by decide), hdl, if_pos hz0]
              have hrow : ∀ k, 118 ≤ k → k < 154 → sh (upd ndl (pr u v) (nI d)) k = upd (sh ndl) (118 + pr u v) (nI d) k := by
                intro k h1 h2
                unfold sh upd
                by_cases e : k = 118 + pr u v
                · rw [if_pos e, if_pos (by omega)]
                · rw [if_neg e, if_neg (by omega)]
              have hLK := (LK_put (d := d) t7 d2 (show u < nd by omega) (show v < nd by omega) hne (by omega)).rc2 hrow
              have hcn : cntF (lf (sh (upd ndl (pr u v) (nI d)))) 36 0 = cntF (lf (upd (sh ndl) (118 + pr u v) (nI d))) 36 0 := cnt_same _ _ _ _ (fun i _ h => by unfold lf; rw [hrow _ (by omega) (by omega)])
              have hcp := cnt_put (row := sh ndl) (p := pr u v) (d := d) hp36 (by omega)
              have hlf : ¬ lf (sh ndl) (pr u v) = true := by unfold lf; rw [hsh, hz0]; decide
              rw [if_neg hlf, if_pos (show 0 < d by omega)] at hcp
              refine IG.fin (nd' := nd) (q2 := q4) hN hT hU (by omega) j4 rfl rfl ⟨⟨d1, d2, rfl, rfl⟩, t2, t3, t4, t5, t6, hLK, ⟨?_, rfl, by rw [hcn]; omega⟩, fun h => by omega⟩
              rw [hcn, t8, nI_1, show cntF (lf (sh ndl)) 36 0 + 1 = cntF (lf (upd (sh ndl) (118 + pr u v) (nI d))) 36 0 by omega]
theorem item_K {len N it : Nat} {c : Nat → Nat} {tx ty : ar} (hN : 130 ≤ N) (hT : TXT len c tx) (hU : TXT len c ty) {nd q s : Nat} {qrn qre qrh qra qrl qrf : Int32} {qdl : ar} {qlt nn ne nh na nl nf nL : Int32} {ndl : ar} (hq : q ≤ len) (hsl : s ≤ len) (hTR : TR nd it qrn qre qrh qra qrl qrf qdl qlt nn ne nh na nl nf nL ndl) (nu : Int32) {p : Nat} (hit : it < 2147483648) {kd tk : Int32} (hK : TK kd nu tk) (hnk : ¬ kd = -3) (hnx : f_X12_next N (nI len) ty (nI p) = some (nI q, nI s, tk)) : IG len N it q tx (f_X6_readItem N tx (nI len) qrn qre qrh qra qrl qrf qdl qlt (nI it) kd nu (nI s) (nI q)) (f_X12_readsItem N (nI len) ty (nI p) nn ne nh na nl nf nL ndl (nI it)) := by
  have dflt : (¬ kd = 97 ∧ ¬ kd = 101 ∧ ¬ kd = 102 ∧ ¬ kd = 104 ∧ ¬ kd = 108 ∧ ¬ kd = 110 ∧ ¬ kd = 120) → (¬ tk = 97 ∧ ¬ tk = 101 ∧ ¬ tk = 102 ∧ ¬ tk = 104 ∧ ¬ tk = 108 ∧ ¬ tk = 110 ∧ ¬ tk = 120) → IG len N it q tx (f_X6_readItem N tx (nI len) qrn qre qrh qra qrl qrf qdl qlt (nI it) kd nu (nI s) (nI q)) (f_X12_readsItem N (nI len) ty (nI p) nn ne nh na nl nf nL ndl (nI it)) := by
    rintro ⟨a1, a2, a3, a4, a5, a6, a7⟩ ⟨b1, b2, b3, b4, b5, b6, b7⟩
    unfold f_X6_readItem f_X12_readsItem
    rw [hnx, Option.bind_some]
    dsimp only
    rw [if_neg a1, if_neg a2, if_neg a3, if_neg a4, if_neg a5, if_neg a6, if_neg a7, if_neg b1, if_neg b2, if_neg b3, if_neg b4, if_neg b5, if_neg b6, if_neg b7]
    exact Or.inl ⟨s, _, _, rfl, rfl, rfl, rfl, hsl⟩
  rcases hK with ⟨rfl, -⟩ | ⟨k, k1, rfl, rfl, rfl⟩ | ⟨rfl, rfl⟩ | ⟨k, k1, k2, rfl, rfl⟩
  · exact absurd rfl hnk
  · refine dflt (by decide) ?_
    have hb : ∀ z : Nat, z < 1000 → ¬ nI (1000 + k) = nI z := fun z hz e => by have := (nI_eq (by omega) (by omega)).mp e; omega
    exact ⟨hb 97 (by omega), hb 101 (by omega), hb 102 (by omega), hb 104 (by omega), hb 108 (by omega), hb 110 (by omega), hb 120 (by omega)⟩
  · exact dflt (by decide) (by decide)
  · by_cases h97 : k = 97
    · subst h97; exact item_a hN hT hU hq hsl hTR nu hnx
    by_cases h101 : k = 101
    · subst h101; exact item_e hN hT hU hq hsl hTR nu hnx
    by_cases h102 : k = 102
    · subst h102; exact item_f hN hT hU hq hsl hTR nu hnx
    by_cases h104 : k = 104
    · subst h104; exact item_h hN hT hU hq hsl hTR nu hnx
    by_cases h108 : k = 108
    · subst h108; exact item_l hN hT hU hq hsl hTR nu hnx
    by_cases h110 : k = 110
    · subst h110; exact item_n hN hT hU hq hsl hTR nu hit hnx
    by_cases h120 : k = 120
    · subst h120; exact item_x hN hT hU hq hsl hTR nu hnx
    have hb : ∀ z : Nat, z < 1000 → k ≠ z → ¬ nI k = nI z := fun z hz hne e => hne ((nI_eq (by omega) (by omega)).mp e)
    have hall : ¬ nI k = 97 ∧ ¬ nI k = 101 ∧ ¬ nI k = 102 ∧ ¬ nI k = 104 ∧ ¬ nI k = 108 ∧ ¬ nI k = 110 ∧ ¬ nI k = 120 := ⟨hb 97 (by omega) h97, hb 101 (by omega) h101, hb 102 (by omega) h102, hb 104 (by omega) h104, hb 108 (by omega) h108, hb 110 (by omega) h110, hb 120 (by omega) h120⟩
    exact dflt hall hall
