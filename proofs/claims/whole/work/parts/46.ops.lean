/-! the relation of the two sides, call by call -/
def RI (nd B : Nat) (ik : ar) (iv : Nat → Nat → ar) (isk kept : ar) : Prop := ∀ j, j < 2 → ik j = isk j ∧ (¬ ik j = 0 → RKv nd B (iv j) (fun k => kept (622 * j + k)))
def RT (tx : ar) (tn : Int32) (ty : ar) (lm : Int32) : Prop := ∃ (len : Nat) (c : Nat → Nat), tn = nI len ∧ lm = nI len ∧ TXT len c tx ∧ TXT len c ty
def RS (nd : Nat) (sf sg sw : ar) (sz : Int32) (mf mt ms : ar) (mm : Int32) : Prop := ∃ k : Nat, k ≤ 6 ∧ sz = nI k ∧ mm = nI k ∧ ∀ j, j < k → ∃ u d : Nat, u < nd ∧ d < nd ∧ sf j = nI u ∧ mf j = nI u ∧ sg j = nI d ∧ mt j = nI d ∧ sw j = ms j
def Rel (i : Nat) (tx : ar) (tn : Int32) (rn : Int32) (re : Int32) (rh : Int32) (ra : Int32) (rl : Int32) (rf : Int32) (dl : ar) (lt : Int32) (hp : ar) (gs : ar) (md : ar) (ct : ar) (xp : ar) (wn : ar) (wz : Int32) (tm : Int32) (la : Int32) (ps : Int32) (rv : Nat → Nat → ar) (ik : ar) (iv : Nat → Nat → ar) (sf : ar) (sg : ar) (sw : ar) (sz : Int32) (m_nodes : Int32) (m_every : Int32) (m_halves : Int32) (m_age : Int32) (m_life : Int32) (m_first : Int32) (m_now : ar) (m_undoMany : Int32) (m_undoAt : Int32) (m_undos : ar) (m_isKept : ar) (m_kept : ar) (m_letterMany : Int32) (m_text : ar) (m_seenMany : Int32) (m_seenFrom : ar) (m_seenTo : ar) (m_seen : ar) : Prop := ∃ nd life : Nat, (2 ≤ nd ∧ nd ≤ 6 ∧ rn = nI nd ∧ m_nodes = nI nd) ∧ (re = m_every ∧ rh = m_halves ∧ ra = m_age ∧ rf = m_first) ∧ (life ≤ 99 ∧ rl = nI life ∧ m_life = nI life) ∧ RK nd (14400 * i) dl lt hp gs md ct xp wn wz tm m_now ∧ RU nd (14400 * i) la ps rv m_undoAt m_undoMany m_undos ∧ RI nd (14400 * i) ik iv m_isKept m_kept ∧ RT tx tn m_text m_letterMany ∧ RS nd sf sg sw sz m_seenFrom m_seenTo m_seen m_seenMany
theorem mkRel {i nd life B1 B2 B3 : Nat} {tx : ar} {tn : Int32} {re : Int32} {rh : Int32} {ra : Int32} {rf : Int32} {dl : ar} {lt : Int32} {hp : ar} {gs : ar} {md : ar} {ct : ar} {xp : ar} {wn : ar} {wz : Int32} {tm : Int32} {la : Int32} {ps : Int32} {rv : Nat → Nat → ar} {ik : ar} {iv : Nat → Nat → ar} {sf : ar} {sg : ar} {sw : ar} {sz : Int32} {m_now : ar} {m_undoMany : Int32} {m_undoAt : Int32} {m_undos : ar} {m_isKept : ar} {m_kept : ar} {m_letterMany : Int32} {m_text : ar} {m_seenMany : Int32} {m_seenFrom : ar} {m_seenTo : ar} {m_seen : ar} (n2 : 2 ≤ nd) (n6 : nd ≤ 6) (hl : life ≤ 99) (hK : RK nd B1 dl lt hp gs md ct xp wn wz tm m_now) (hU : RU nd B2 la ps rv m_undoAt m_undoMany m_undos) (hI : RI nd B3 ik iv m_isKept m_kept) (hT : RT tx tn m_text m_letterMany) (hS : RS nd sf sg sw sz m_seenFrom m_seenTo m_seen m_seenMany) (hB1 : B1 ≤ 14400 * (i + 1) := by omega) (hB2 : B2 ≤ 14400 * (i + 1) := by omega) (hB3 : B3 ≤ 14400 * (i + 1) := by omega) : Rel (i + 1) tx tn (nI nd) re rh ra (nI life) rf dl lt hp gs md ct xp wn wz tm la ps rv ik iv sf sg sw sz (nI nd) re rh ra (nI life) rf m_now m_undoMany m_undoAt m_undos m_isKept m_kept m_letterMany m_text m_seenMany m_seenFrom m_seenTo m_seen := ⟨nd, life, ⟨n2, n6, rfl, rfl⟩, ⟨rfl, rfl, rfl, rfl⟩, ⟨hl, rfl, rfl⟩, hK.mono hB1, hU.mono hB2, fun j hj => ⟨(hI j hj).1, fun h => RK.mono hB3 ((hI j hj).2 h)⟩, hT, hS⟩
theorem unR {α : Type} {n : Nat} (h0 : 0 < n) (hn : n < 2147483648) (x y : Int32) (A B : Option α) : (Option.bind (f_X12_isNode (nI n) x) fun r_1 => if b2i r_1 = 0 then A else Option.bind (f_X12_isNode (nI n) y) fun r_2 => if b2i r_2 = 0 then A else if x = y then A else B) = if (0 ≤ x.toInt ∧ x.toInt < n) ∧ (0 ≤ y.toInt ∧ y.toInt < n) ∧ x ≠ y then B else A := by
  simp only [isNodeR_N _ h0 hn, Option.bind_some, b2i_d]
  by_cases h1 : 0 ≤ x.toInt ∧ x.toInt < n
  · rw [if_neg (fun q => q h1)]
    by_cases h2 : 0 ≤ y.toInt ∧ y.toInt < n
    · rw [if_neg (fun q => q h2)]
      by_cases h3 : x = y
      · rw [if_pos h3, if_neg (fun q => q.2.2 h3)]
      · rw [if_neg h3, if_pos ⟨h1, h2, h3⟩]
    · rw [if_pos h2, if_neg (fun q => h2 q.2.1)]
  · rw [if_pos h1, if_neg (fun q => h1 q.1)]
theorem unC {α : Type} {n : Nat} (hn : n < 2147483648) (x y : Int32) (A B : Option α) : (Option.bind (f_X11_areUnlike (nI n) x y) fun r_1 => if b2i r_1 = 0 then A else B) = if (0 ≤ x.toInt ∧ x.toInt < n) ∧ (0 ≤ y.toInt ∧ y.toInt < n) ∧ x ≠ y then B else A := by
  rw [unlikeC_N hn, Option.bind_some, ]
  by_cases h : (0 ≤ x.toInt ∧ x.toInt < n) ∧ (0 ≤ y.toInt ∧ y.toInt < n) ∧ x ≠ y
  · rw [decide_eq_true h, if_neg (show ¬ b2i true = 0 from by decide), if_pos h]
  · rw [decide_eq_false h, if_pos (show b2i false = 0 from rfl), if_neg h]
theorem ndC {α : Type} {n : Nat} (hn : n < 2147483648) (x : Int32) (A B : Option α) : (Option.bind (f_X11_isNode (nI n) x) fun r_1 => if b2i r_1 = 0 then A else B) = if 0 ≤ x.toInt ∧ x.toInt < n then B else A := by
  rw [isNodeC_N _ hn, Option.bind_some]
  by_cases h : 0 ≤ x.toInt ∧ x.toInt < n
  · rw [decide_eq_true h, if_neg (show ¬ b2i true = 0 from by decide), if_pos h]
  · rw [decide_eq_false h, if_pos (show b2i false = 0 from rfl), if_neg h]
theorem ndR {α : Type} {n : Nat} (h0 : 0 < n) (hn : n < 2147483648) (x : Int32) (A B : Option α) : (Option.bind (f_X12_isNode (nI n) x) fun r_1 => if b2i r_1 = 0 then A else B) = if 0 ≤ x.toInt ∧ x.toInt < n then B else A := by
  rw [isNodeR_N _ h0 hn, Option.bind_some]
  by_cases h : 0 ≤ x.toInt ∧ x.toInt < n
  · rw [decide_eq_true h, if_neg (show ¬ b2i true = 0 from by decide), if_pos h]
  · rw [decide_eq_false h, if_pos (show b2i false = 0 from rfl), if_neg h]
theorem inR {α : Type} (x : Int32) (lo hi : Nat) (hlo : lo < 2147483648) (hhi : hi < 2147483648) (A B : Option α) : (Option.bind (f_X12_in x (nI lo) (nI hi)) fun r_1 => if b2i r_1 = 0 then A else B) = if (lo : Int) ≤ x.toInt ∧ x.toInt ≤ hi then B else A := by
  rw [in_N x lo hi hlo hhi, Option.bind_some]
  by_cases h : (lo : Int) ≤ x.toInt ∧ x.toInt ≤ hi
  · rw [decide_eq_true h, if_neg (show ¬ b2i true = 0 from by decide), if_pos h]
  · rw [decide_eq_false h, if_pos (show b2i false = 0 from rfl), if_neg h]
theorem ndx {x : Int32} {n : Nat} (h : 0 ≤ x.toInt ∧ x.toInt < n) : ∃ u : Nat, u < n ∧ x = nI u := ⟨x.toInt.toNat, by omega, idxN h.1⟩
theorem encB_1 {w : Option Nat} (hw : ∀ k, w = some k → k < 36) : (encB w = -1) = (w = none) := by
  cases w with
  | none => simp [encB]
  | some k =>
    have e := negN (a := 1) (by omega) (by omega) k (by have := hw k rfl; omega)
    have e2 : (nI k = -1) = False := e
    simp only [encB, e2]
    simp
theorem enc_91 {w : Option Nat} (hw : ∀ k, w = some k → k < 36) : (enc w = -9) = (w = none) := enc_9 (fun x e => by have := hw x e; omega)
theorem ng1 {k : Nat} (h : k < 36) : ¬ encB (some k) = -1 := by rw [encB_1 (fun q e => by cases e; exact h)]; simp
theorem ng9 {k : Nat} (h : k < 36) : ¬ enc (some k) = -9 := by rw [enc_91 (fun q e => by cases e; exact h)]; simp
theorem lnk_lt {row : ar} {x : Int32} : ∀ k, lnk row x = some k → k < 36 := fun _ h => (lnk_some h).1
theorem op_type {N i : Nat} {tx : ar} {tn : Int32} {rn : Int32} {re : Int32} {rh : Int32} {ra : Int32} {rl : Int32} {rf : Int32} {dl : ar} {lt : Int32} {hp : ar} {gs : ar} {md : ar} {ct : ar} {xp : ar} {wn : ar} {wz : Int32} {tm : Int32} {la : Int32} {ps : Int32} {rv : Nat → Nat → ar} {ik : ar} {iv : Nat → Nat → ar} {sf : ar} {sg : ar} {sw : ar} {sz : Int32} {m_nodes : Int32} {m_every : Int32} {m_halves : Int32} {m_age : Int32} {m_life : Int32} {m_first : Int32} {m_now : ar} {m_undoMany : Int32} {m_undoAt : Int32} {m_undos : ar} {m_isKept : ar} {m_kept : ar} {m_letterMany : Int32} {m_text : ar} {m_seenMany : Int32} {m_seenFrom : ar} {m_seenTo : ar} {m_seen : ar} (hN : 1000 ≤ N) (hi : i < 512) (h : Rel i tx tn rn re rh ra rl rf dl lt hp gs md ct xp wn wz tm la ps rv ik iv sf sg sw sz m_nodes m_every m_halves m_age m_life m_first m_now m_undoMany m_undoAt m_undos m_isKept m_kept m_letterMany m_text m_seenMany m_seenFrom m_seenTo m_seen) (x1 : Int32) : ∃ (r : Int32) (tn_o : Int32) (tx_o : ar) (m_letterMany_o : Int32) (m_text_o : ar), f_X11_type tx tn x1 = some (r, tn_o, tx_o) ∧ f_X12_type m_letterMany m_text x1 = some (r, m_letterMany_o, m_text_o) ∧ Rel (i + 1) tx_o tn_o rn re rh ra rl rf dl lt hp gs md ct xp wn wz tm la ps rv ik iv sf sg sw sz m_nodes m_every m_halves m_age m_life m_first m_now m_undoMany m_undoAt m_undos m_isKept m_kept m_letterMany_o m_text_o m_seenMany m_seenFrom m_seenTo m_seen := by
  obtain ⟨nd, life, ⟨n2, n6, rfl, rfl⟩, ⟨rfl, rfl, rfl, rfl⟩, ⟨hl, rfl, rfl⟩, hK, hU, hI, hT, hS⟩ := h
  obtain ⟨len, c, rfl, rfl, T1, T2⟩ := hT
  have hlen := T1.1
  unfold f_X11_type f_X12_type f_X9_append
  have eR := inR (α := Int32 × Int32 × ar) x1 0 255 (by omega) (by omega) (some (-1, nI len, m_text)) (if nI len = 120 then some (-3, nI len, m_text) else ck (inb (nI len) 120) (some (nI len + 1, nI len + 1, upd m_text (nI len).toNatClampNeg x1)))
  have e0 : nI 0 = 0 := rfl
  have e255 : nI 255 = 255 := rfl
  rw [e0, e255] at eR
  rw [eR]
  by_cases hx : ((0 : Nat) : Int) ≤ x1.toInt ∧ x1.toInt ≤ ((255 : Nat) : Int)
  · have hx0 : x1 = nI x1.toInt.toNat := idxN (by omega)
    have h1 : ¬ x1 < 0 := by rw [Int32.lt_iff_toInt_lt, i0]; omega
    have h2 : x1 ≤ 255 := by rw [Int32.le_iff_toInt_le]; exact hx.2
    rw [if_neg h1, if_pos h2, if_pos hx]
    by_cases hf : len = 120
    · subst hf
      rw [if_neg (show ¬ nI 120 < 120 from by decide), if_pos (show nI 120 = 120 from rfl), Option.bind_some]
      exact ⟨_, _, _, _, _, rfl, rfl, mkRel n2 n6 hl hK hU hI ⟨120, c, rfl, rfl, T1, T2⟩ hS⟩
    · rw [if_pos (show nI len < 120 from nI_lt (b := 120) (by omega) (by omega)), if_neg (show ¬ nI len = 120 from fun q => hf ((nI_eq (b := 120) (by omega) (by omega)).mp q))]
      simp (disch := omega) only [ckN, clN, Option.bind_some, nI_1]
      refine ⟨_, _, _, _, _, rfl, rfl, mkRel n2 n6 hl hK hU hI ⟨len + 1, fun j => if j = len then x1.toInt.toNat else c j, rfl, rfl, ⟨by omega, fun j hj => ?_⟩, ⟨by omega, fun j hj => ?_⟩⟩ hS⟩
      · dsimp only
        by_cases e : j = len
        · subst e; rw [pk_us, if_pos rfl]; exact ⟨hx0, by omega⟩
        · rw [pk_un e, if_neg e]; exact T1.2 j (by omega)
      · dsimp only
        by_cases e : j = len
        · subst e; rw [pk_us, if_pos rfl]; exact ⟨hx0, by omega⟩
        · rw [pk_un e, if_neg e]; exact T2.2 j (by omega)
  · rw [if_neg hx]
    have hc : (if x1 < 0 then some ((-1 : Int32), nI len, tx) else if x1 ≤ 255 then Option.bind (if nI len < 120 then ck (inb (nI len) 120) (some (true, nI len + 1, upd tx (nI len).toNatClampNeg x1)) else some (false, nI len, tx)) (fun r_1 => if (b2i r_1.1) = 0 then some ((-3), r_1.2.1, r_1.2.2) else some (r_1.2.1, r_1.2.1, r_1.2.2)) else some ((-1), nI len, tx)) = some (-1, nI len, tx) := by
      by_cases h1 : x1 < 0
      · rw [if_pos h1]
      · rw [if_neg h1, if_neg]
        rw [Int32.lt_iff_toInt_lt, i0] at h1
        rw [Int32.le_iff_toInt_le]
        have : (255 : Int32).toInt = 255 := rfl
        omega
    exact ⟨_, _, _, _, _, hc, rfl, mkRel n2 n6 hl hK hU hI ⟨len, c, rfl, rfl, T1, T2⟩ hS⟩
theorem op_clear {N i : Nat} {tx : ar} {tn : Int32} {rn : Int32} {re : Int32} {rh : Int32} {ra : Int32} {rl : Int32} {rf : Int32} {dl : ar} {lt : Int32} {hp : ar} {gs : ar} {md : ar} {ct : ar} {xp : ar} {wn : ar} {wz : Int32} {tm : Int32} {la : Int32} {ps : Int32} {rv : Nat → Nat → ar} {ik : ar} {iv : Nat → Nat → ar} {sf : ar} {sg : ar} {sw : ar} {sz : Int32} {m_nodes : Int32} {m_every : Int32} {m_halves : Int32} {m_age : Int32} {m_life : Int32} {m_first : Int32} {m_now : ar} {m_undoMany : Int32} {m_undoAt : Int32} {m_undos : ar} {m_isKept : ar} {m_kept : ar} {m_letterMany : Int32} {m_text : ar} {m_seenMany : Int32} {m_seenFrom : ar} {m_seenTo : ar} {m_seen : ar} (hN : 1000 ≤ N) (hi : i < 512) (h : Rel i tx tn rn re rh ra rl rf dl lt hp gs md ct xp wn wz tm la ps rv ik iv sf sg sw sz m_nodes m_every m_halves m_age m_life m_first m_now m_undoMany m_undoAt m_undos m_isKept m_kept m_letterMany m_text m_seenMany m_seenFrom m_seenTo m_seen) : ∃ (r : Int32) (tn_o : Int32) (m_letterMany_o : Int32), f_X11_clear tn = some (r, tn_o) ∧ f_X12_clear m_letterMany = some (r, m_letterMany_o) ∧ Rel (i + 1) tx tn_o rn re rh ra rl rf dl lt hp gs md ct xp wn wz tm la ps rv ik iv sf sg sw sz m_nodes m_every m_halves m_age m_life m_first m_now m_undoMany m_undoAt m_undos m_isKept m_kept m_letterMany_o m_text m_seenMany m_seenFrom m_seenTo m_seen := by
  obtain ⟨nd, life, ⟨n2, n6, rfl, rfl⟩, ⟨rfl, rfl, rfl, rfl⟩, ⟨hl, rfl, rfl⟩, hK, hU, hI, hT, hS⟩ := h
  obtain ⟨len, c, rfl, rfl, T1, T2⟩ := hT
  exact ⟨_, _, _, rfl, rfl, mkRel n2 n6 hl hK hU hI ⟨0, c, rfl, rfl, ⟨by omega, fun j hj => by omega⟩, ⟨by omega, fun j hj => by omega⟩⟩ hS⟩
theorem op_net {N i : Nat} {tx : ar} {tn : Int32} {rn : Int32} {re : Int32} {rh : Int32} {ra : Int32} {rl : Int32} {rf : Int32} {dl : ar} {lt : Int32} {hp : ar} {gs : ar} {md : ar} {ct : ar} {xp : ar} {wn : ar} {wz : Int32} {tm : Int32} {la : Int32} {ps : Int32} {rv : Nat → Nat → ar} {ik : ar} {iv : Nat → Nat → ar} {sf : ar} {sg : ar} {sw : ar} {sz : Int32} {m_nodes : Int32} {m_every : Int32} {m_halves : Int32} {m_age : Int32} {m_life : Int32} {m_first : Int32} {m_now : ar} {m_undoMany : Int32} {m_undoAt : Int32} {m_undos : ar} {m_isKept : ar} {m_kept : ar} {m_letterMany : Int32} {m_text : ar} {m_seenMany : Int32} {m_seenFrom : ar} {m_seenTo : ar} {m_seen : ar} {kd : Int32} {nu : Int32} {pl : Int32} {it : Int32} {nx : Int32} {qrn : Int32} {qre : Int32} {qrh : Int32} {qra : Int32} {qrl : Int32} {qrf : Int32} {qlt : Int32} {qdl : ar} {m_tokenAt : Int32} {m_token : Int32} {m_newDelay : ar} {m_readAt : Int32} {m_newNodes : Int32} {m_newEvery : Int32} {m_newHalves : Int32} {m_newAge : Int32} {m_newLife : Int32} {m_newFirst : Int32} {m_newLinks : Int32} (hN : 1000 ≤ N) (hi : i < 512) (h : Rel i tx tn rn re rh ra rl rf dl lt hp gs md ct xp wn wz tm la ps rv ik iv sf sg sw sz m_nodes m_every m_halves m_age m_life m_first m_now m_undoMany m_undoAt m_undos m_isKept m_kept m_letterMany m_text m_seenMany m_seenFrom m_seenTo m_seen) : ∃ (r : Int32) (tn_o : Int32) (it_o : Int32) (kd_o : Int32) (nu_o : Int32) (pl_o : Int32) (nx_o : Int32) (qrn_o : Int32) (qre_o : Int32) (qrh_o : Int32) (qra_o : Int32) (qrl_o : Int32) (qrf_o : Int32) (qlt_o : Int32) (qdl_o : ar) (rn_o : Int32) (re_o : Int32) (rh_o : Int32) (ra_o : Int32) (rl_o : Int32) (rf_o : Int32) (wz_o : Int32) (tm_o : Int32) (lt_o : Int32) (dl_o : ar) (hp_o : ar) (md_o : ar) (ct_o : ar) (xp_o : ar) (ps_o : Int32) (ik_o : ar) (sz_o : Int32) (m_nodes_o : Int32) (m_every_o : Int32) (m_halves_o : Int32) (m_age_o : Int32) (m_life_o : Int32) (m_first_o : Int32) (m_undoMany_o : Int32) (m_letterMany_o : Int32) (m_readAt_o : Int32) (m_tokenAt_o : Int32) (m_token_o : Int32) (m_newNodes_o : Int32) (m_newEvery_o : Int32) (m_newHalves_o : Int32) (m_newAge_o : Int32) (m_newLife_o : Int32) (m_newFirst_o : Int32) (m_newLinks_o : Int32) (m_seenMany_o : Int32) (m_now_o : ar) (m_isKept_o : ar) (m_newDelay_o : ar), f_X11_net N tx tn kd nu pl rn re rh ra rl rf dl lt hp md ct xp wz tm ps ik sz = some (r, tn_o, it_o, kd_o, nu_o, pl_o, nx_o, qrn_o, qre_o, qrh_o, qra_o, qrl_o, qrf_o, qlt_o, qdl_o, rn_o, re_o, rh_o, ra_o, rl_o, rf_o, wz_o, tm_o, lt_o, dl_o, hp_o, md_o, ct_o, xp_o, ps_o, ik_o, sz_o) ∧ f_X12_net N m_nodes m_every m_halves m_age m_life m_first m_now m_undoMany m_isKept m_letterMany m_text m_tokenAt m_token m_newDelay m_seenMany = some (r, m_nodes_o, m_every_o, m_halves_o, m_age_o, m_life_o, m_first_o, m_undoMany_o, m_letterMany_o, m_readAt_o, m_tokenAt_o, m_token_o, m_newNodes_o, m_newEvery_o, m_newHalves_o, m_newAge_o, m_newLife_o, m_newFirst_o, m_newLinks_o, m_seenMany_o, m_now_o, m_isKept_o, m_newDelay_o) ∧ Rel (i + 1) tx tn_o rn_o re_o rh_o ra_o rl_o rf_o dl_o lt_o hp_o gs md_o ct_o xp_o wn wz_o tm_o la ps_o rv ik_o iv sf sg sw sz_o m_nodes_o m_every_o m_halves_o m_age_o m_life_o m_first_o m_now_o m_undoMany_o m_undoAt m_undos m_isKept_o m_kept m_letterMany_o m_text m_seenMany_o m_seenFrom m_seenTo m_seen := by
  obtain ⟨nd, life, ⟨n2, n6, rfl, rfl⟩, ⟨rfl, rfl, rfl, rfl⟩, ⟨hl, rfl, rfl⟩, hK, hU, hI, hT, hS⟩ := h
  obtain ⟨len, c, rfl, rfl, T1, T2⟩ := hT
  rcases net_K (N := N) hN T1 T2 kd nu pl (nI nd) re rh ra (nI life) rf dl lt hp md ct xp gs wn wz tm ps ik sz (nI nd) re rh ra (nI life) rf m_now m_undoMany m_isKept m_tokenAt m_token m_newDelay m_seenMany with ⟨r, s1, s2, s3, s4, s5, s6, s7, s8, s9, s10, s11, s12, s13, y1, y2, y3, y4, y5, y6, y7, y8, y9, y10, y11, h1, h2⟩ | ⟨r, s1, s2, s3, s4, s5, s6, s7, s8, s9, s10, s11, s12, s13, nd', rn', re', rh', ra', rl', rf', lt', dl', ik', now', isk', y1, y2, y3, y4, y5, y6, y7, y8, y9, y10, y11, h1, h2, ⟨a1, a2, rfl⟩, b1, b2, b3, ⟨li, c1, c2, rfl⟩, b5, hR, d1, d2, d3, d4⟩
  · exact ⟨_, _, _, _, _, _, _, _, _, _, _, _, _, _, _, _, _, _, _, _, _, _, _, _, _, _, _, _, _, _, _, _, _, _, _, _, _, _, _, _, _, _, _, _, _, _, _, _, _, _, _, _, _, _, h1, h2, mkRel n2 n6 hl hK hU hI ⟨len, c, rfl, rfl, T1, T2⟩ hS⟩
  · obtain ⟨ua, un, u1, u2, u3, u4, u5, u6, u7⟩ := hU
    refine ⟨_, _, _, _, _, _, _, _, _, _, _, _, _, _, _, _, _, _, _, _, _, _, _, _, _, _, _, _, _, _, _, _, _, _, _, _, _, _, _, _, _, _, _, _, _, _, _, _, _, _, _, _, _, _, h1, h2, mkRel a1 a2 c2 hR ⟨ua, 0, u1, by omega, u3, u4, rfl, rfl, fun j hj => by omega⟩ (B3 := 0) (fun j hj => ?_) ⟨0, c, rfl, rfl, ⟨by omega, fun j hj => by omega⟩, ⟨by omega, fun j hj => by omega⟩⟩ ⟨0, by omega, rfl, rfl, fun j hj => by omega⟩ (by omega) (B2 := 0) (by omega) (by omega)⟩
    rcases (show j = 0 ∨ j = 1 by omega) with rfl | rfl
    · exact ⟨by rw [d1, d3], fun q => absurd d1 q⟩
    · exact ⟨by rw [d2, d4], fun q => absurd d2 q⟩
theorem op_link {N i : Nat} {tx : ar} {tn : Int32} {rn : Int32} {re : Int32} {rh : Int32} {ra : Int32} {rl : Int32} {rf : Int32} {dl : ar} {lt : Int32} {hp : ar} {gs : ar} {md : ar} {ct : ar} {xp : ar} {wn : ar} {wz : Int32} {tm : Int32} {la : Int32} {ps : Int32} {rv : Nat → Nat → ar} {ik : ar} {iv : Nat → Nat → ar} {sf : ar} {sg : ar} {sw : ar} {sz : Int32} {m_nodes : Int32} {m_every : Int32} {m_halves : Int32} {m_age : Int32} {m_life : Int32} {m_first : Int32} {m_now : ar} {m_undoMany : Int32} {m_undoAt : Int32} {m_undos : ar} {m_isKept : ar} {m_kept : ar} {m_letterMany : Int32} {m_text : ar} {m_seenMany : Int32} {m_seenFrom : ar} {m_seenTo : ar} {m_seen : ar} (hN : 1000 ≤ N) (hi : i < 512) (h : Rel i tx tn rn re rh ra rl rf dl lt hp gs md ct xp wn wz tm la ps rv ik iv sf sg sw sz m_nodes m_every m_halves m_age m_life m_first m_now m_undoMany m_undoAt m_undos m_isKept m_kept m_letterMany m_text m_seenMany m_seenFrom m_seenTo m_seen) (x1 x2 : Int32) : ∃ (r : Int32), f_X11_link N dl lt x1 x2 = some r ∧ f_X12_link N m_now x1 x2 = some r ∧ Rel (i + 1) tx tn rn re rh ra rl rf dl lt hp gs md ct xp wn wz tm la ps rv ik iv sf sg sw sz m_nodes m_every m_halves m_age m_life m_first m_now m_undoMany m_undoAt m_undos m_isKept m_kept m_letterMany m_text m_seenMany m_seenFrom m_seenTo m_seen := by
  obtain ⟨nd, life, ⟨n2, n6, rfl, rfl⟩, ⟨rfl, rfl, rfl, rfl⟩, ⟨hl, rfl, rfl⟩, hK, hU, hI, hT, hS⟩ := h
  have hpC := pairOfC_K (N := N) hK.1 (by omega) hK.2.1.1 x1
  have hpR := pairOfR_K (row := m_now) (N := N) (by omega) x1
  have e1 := encB_1 (w := lnk m_now x1) lnk_lt
  have e9 := enc_91 (w := lnk m_now x1) lnk_lt
  unfold f_X11_link f_X12_link
  rw [hpC, hpR, Option.bind_some, Option.bind_some]
  have eI := inR (α := Int32) x2 0 2 (by omega) (by omega)
  have q0 : nI 0 = 0 := rfl
  have q2 : nI 2 = 2 := rfl
  rw [q0, q2] at eI
  cases hw : lnk m_now x1 with
  | none =>
    rw [if_pos (show encB none = -1 from rfl), if_pos (show enc none = -9 from rfl)]
    exact ⟨_, rfl, rfl, mkRel n2 n6 hl hK hU hI hT hS⟩
  | some k =>
    obtain ⟨k1, k2⟩ := lnk_some hw
    obtain ⟨p1, p2, p3, p4, p5, p6⟩ := hK.1.pair k1 k2
    rw [hw] at e1 e9
    rw [if_neg (show ¬ encB (some k) = -1 from ng1 k1), if_neg (show ¬ enc (some k) = -9 from ng9 k1), eI]
    have hb : encB (some k) = nI k := rfl
    have he : enc (some k) = nI k := rfl
    have h118 : (118 : Int32) + nI k = nI (118 + k) := nI_add 118 k
    rw [hb, he, h118]
    simp (disch := omega) only [ckN, clN]
    by_cases h0 : x2 = 0
    · subst h0
      rw [if_pos (show (0 : Int32) = 0 from rfl), if_pos (show ((0 : Nat) : Int) ≤ (0 : Int32).toInt ∧ (0 : Int32).toInt ≤ ((2 : Nat) : Int) from by decide), if_pos (show (0 : Int32) = 0 from rfl)]
      exact ⟨_, rfl, rfl, mkRel n2 n6 hl hK hU hI hT hS⟩
    · by_cases h1 : x2 = 1
      · subst h1
        rw [if_neg h0, if_pos (show (1 : Int32) = 1 from rfl), if_pos (show ((0 : Nat) : Int) ≤ (1 : Int32).toInt ∧ (1 : Int32).toInt ≤ ((2 : Nat) : Int) from by decide), if_neg h0, if_pos (show (1 : Int32) = 1 from rfl)]
        exact ⟨_, rfl, rfl, mkRel n2 n6 hl hK hU hI hT hS⟩
      · by_cases h2 : x2 = 2
        · subst h2
          rw [if_neg h0, if_neg h1, if_pos (show (2 : Int32) = 2 from rfl), if_pos (show ((0 : Nat) : Int) ≤ (2 : Int32).toInt ∧ (2 : Int32).toInt ≤ ((2 : Nat) : Int) from by decide), if_neg h0, if_neg h1, p4]
          exact ⟨_, rfl, rfl, mkRel n2 n6 hl hK hU hI hT hS⟩
        · have hno : ¬ (((0 : Nat) : Int) ≤ x2.toInt ∧ x2.toInt ≤ ((2 : Nat) : Int)) := by
            intro q
            have n0 := ne_ti (z := 0) h0 rfl
            have n1 := ne_ti (z := 1) h1 rfl
            have n2 := ne_ti (z := 2) h2 rfl
            omega
          rw [if_neg h0, if_neg h1, if_neg h2, if_neg hno]
          exact ⟨_, rfl, rfl, mkRel n2 n6 hl hK hU hI hT hS⟩
theorem op_sends {N i : Nat} {tx : ar} {tn : Int32} {rn : Int32} {re : Int32} {rh : Int32} {ra : Int32} {rl : Int32} {rf : Int32} {dl : ar} {lt : Int32} {hp : ar} {gs : ar} {md : ar} {ct : ar} {xp : ar} {wn : ar} {wz : Int32} {tm : Int32} {la : Int32} {ps : Int32} {rv : Nat → Nat → ar} {ik : ar} {iv : Nat → Nat → ar} {sf : ar} {sg : ar} {sw : ar} {sz : Int32} {m_nodes : Int32} {m_every : Int32} {m_halves : Int32} {m_age : Int32} {m_life : Int32} {m_first : Int32} {m_now : ar} {m_undoMany : Int32} {m_undoAt : Int32} {m_undos : ar} {m_isKept : ar} {m_kept : ar} {m_letterMany : Int32} {m_text : ar} {m_seenMany : Int32} {m_seenFrom : ar} {m_seenTo : ar} {m_seen : ar} (hN : 1000 ≤ N) (hi : i < 512) (h : Rel i tx tn rn re rh ra rl rf dl lt hp gs md ct xp wn wz tm la ps rv ik iv sf sg sw sz m_nodes m_every m_halves m_age m_life m_first m_now m_undoMany m_undoAt m_undos m_isKept m_kept m_letterMany m_text m_seenMany m_seenFrom m_seenTo m_seen) (x1 x2 : Int32) : ∃ (r : Int32) (wz_o : Int32) (tm_o : Int32) (hp_o : ar) (gs_o : ar) (md_o : ar) (ct_o : ar) (xp_o : ar) (wn_o : ar) (la_o : Int32) (ps_o : Int32) (rv_o : Nat → Nat → ar) (m_undoMany_o : Int32) (m_undoAt_o : Int32) (m_now_o : ar) (m_undos_o : ar), f_X11_sends N rn re rh ra rl rf dl lt hp gs md ct xp wn wz tm rv la ps x1 x2 = some (r, wz_o, tm_o, hp_o, gs_o, md_o, ct_o, xp_o, wn_o, la_o, ps_o, rv_o) ∧ f_X12_sends N m_nodes m_every m_halves m_age m_life m_first m_now m_undoMany m_undoAt m_undos x1 x2 = some (r, m_undoMany_o, m_undoAt_o, m_now_o, m_undos_o) ∧ Rel (i + 1) tx tn rn re rh ra rl rf dl lt hp_o gs_o md_o ct_o xp_o wn_o wz_o tm_o la_o ps_o rv_o ik iv sf sg sw sz m_nodes m_every m_halves m_age m_life m_first m_now_o m_undoMany_o m_undoAt_o m_undos_o m_isKept m_kept m_letterMany m_text m_seenMany m_seenFrom m_seenTo m_seen := by
  obtain ⟨nd, life, ⟨n2, n6, rfl, rfl⟩, ⟨rfl, rfl, rfl, rfl⟩, ⟨hl, rfl, rfl⟩, hK, hU, hI, hT, hS⟩ := h
  unfold f_X11_sends f_X12_sends
  rw [unC (by omega), unR (by omega) (by omega)]
  by_cases hP : (0 ≤ x1.toInt ∧ x1.toInt < nd) ∧ (0 ≤ x2.toInt ∧ x2.toInt < nd) ∧ x1 ≠ x2
  · obtain ⟨u, hu, rfl⟩ := ndx hP.1
    obtain ⟨g, hg, rfl⟩ := ndx hP.2.1
    obtain ⟨la', ps', rv', mm', ma', und', p1, p2, p3⟩ := push_K hN hK hU
    obtain ⟨r, wz', tm', hp', gs', md', ct', xp', wn', row', l1, l2, l3, -⟩ := letter_K (re := re) (rh := rh) (ra := ra) (rf := rf) (life := life) (g := g) (u := u) (N := N) (by omega) (by omega) n6 hg hu hl (by omega) hK
    rw [if_pos hP, if_pos hP, p1, p2, Option.bind_some, Option.bind_some, l1, l2, Option.bind_some, Option.bind_some]
    exact ⟨_, _, _, _, _, _, _, _, _, _, _, _, _, _, _, _, rfl, rfl, mkRel n2 n6 hl l3 p3 hI hT hS⟩
  · rw [if_neg hP, if_neg hP]
    exact ⟨_, _, _, _, _, _, _, _, _, _, _, _, _, _, _, _, rfl, rfl, mkRel n2 n6 hl hK hU hI hT hS⟩
theorem op_rounds {N i : Nat} {tx : ar} {tn : Int32} {rn : Int32} {re : Int32} {rh : Int32} {ra : Int32} {rl : Int32} {rf : Int32} {dl : ar} {lt : Int32} {hp : ar} {gs : ar} {md : ar} {ct : ar} {xp : ar} {wn : ar} {wz : Int32} {tm : Int32} {la : Int32} {ps : Int32} {rv : Nat → Nat → ar} {ik : ar} {iv : Nat → Nat → ar} {sf : ar} {sg : ar} {sw : ar} {sz : Int32} {m_nodes : Int32} {m_every : Int32} {m_halves : Int32} {m_age : Int32} {m_life : Int32} {m_first : Int32} {m_now : ar} {m_undoMany : Int32} {m_undoAt : Int32} {m_undos : ar} {m_isKept : ar} {m_kept : ar} {m_letterMany : Int32} {m_text : ar} {m_seenMany : Int32} {m_seenFrom : ar} {m_seenTo : ar} {m_seen : ar} (hN : 1000 ≤ N) (hi : i < 512) (h : Rel i tx tn rn re rh ra rl rf dl lt hp gs md ct xp wn wz tm la ps rv ik iv sf sg sw sz m_nodes m_every m_halves m_age m_life m_first m_now m_undoMany m_undoAt m_undos m_isKept m_kept m_letterMany m_text m_seenMany m_seenFrom m_seenTo m_seen) (x1 : Int32) : ∃ (r : Int32) (wz_o : Int32) (tm_o : Int32) (hp_o : ar) (gs_o : ar) (md_o : ar) (ct_o : ar) (xp_o : ar) (wn_o : ar) (la_o : Int32) (ps_o : Int32) (rv_o : Nat → Nat → ar) (m_undoMany_o : Int32) (m_undoAt_o : Int32) (m_now_o : ar) (m_undos_o : ar), f_X11_rounds N rn re rh ra rl rf dl lt hp gs md ct xp wn wz tm rv la ps x1 = some (r, wz_o, tm_o, hp_o, gs_o, md_o, ct_o, xp_o, wn_o, la_o, ps_o, rv_o) ∧ f_X12_rounds N m_nodes m_every m_halves m_age m_life m_first m_now m_undoMany m_undoAt m_undos x1 = some (r, m_undoMany_o, m_undoAt_o, m_now_o, m_undos_o) ∧ Rel (i + 1) tx tn rn re rh ra rl rf dl lt hp_o gs_o md_o ct_o xp_o wn_o wz_o tm_o la_o ps_o rv_o ik iv sf sg sw sz m_nodes m_every m_halves m_age m_life m_first m_now_o m_undoMany_o m_undoAt_o m_undos_o m_isKept m_kept m_letterMany m_text m_seenMany m_seenFrom m_seenTo m_seen := by
  obtain ⟨nd, life, ⟨n2, n6, rfl, rfl⟩, ⟨rfl, rfl, rfl, rfl⟩, ⟨hl, rfl, rfl⟩, hK, hU, hI, hT, hS⟩ := h
  unfold f_X11_rounds f_X12_rounds
  have eI := inR (α := Int32 × Int32 × Int32 × ar × ar) x1 1 4 (by omega) (by omega)
  have q0 : nI 1 = 1 := rfl
  have q2 : nI 4 = 4 := rfl
  rw [q0, q2] at eI
  rw [eI]
  by_cases hP : ((1 : Nat) : Int) ≤ x1.toInt ∧ x1.toInt ≤ ((4 : Nat) : Int)
  · have hx : x1 = nI x1.toInt.toNat := idxN (by omega)
    generalize hq : x1.toInt.toNat = n at hx
    subst hx
    have h1 : ¬ nI n < 1 := nI_nlt (b := 1) (by omega) (by omega)
    have h2 : nI n ≤ 4 := nI_le (b := 4) (by omega) (by omega)
    obtain ⟨la', ps', rv', mm', ma', und', p1, p2, p3⟩ := push_K hN hK hU
    have hnn : nd * nd * n ≤ 144 := by
      have hn4 : n ≤ 4 := by omega
      rcases (show nd = 2 ∨ nd = 3 ∨ nd = 4 ∨ nd = 5 ∨ nd = 6 by omega) with rfl | rfl | rfl | rfl | rfl <;> omega
    obtain ⟨thr, wz', tm', hp', gs', md', ct', xp', wn', row', l1, l2, l3⟩ := rounds_all (re := re) (rh := rh) (ra := ra) (rf := rf) (life := life) (N := N) (n := n) hN n2 n6 hl (by omega) n 0 0 (14400 * i) N (N - nd * nd * n) hp gs md ct xp wn wz tm m_now (by omega) (by omega) (by omega) (by omega) hK
    have e0 : nI 0 = 0 := rfl
    rw [show N - nd * nd * n + nd * nd * n = N by omega, show nd * 0 * nd = 0 by simp] at l2
    rw [e0] at l1 l2
    rw [if_pos hP, if_neg h1, if_pos h2, p1, p2, Option.bind_some, Option.bind_some, l1, l2, Option.bind_some, Option.bind_some]
    exact ⟨_, _, _, _, _, _, _, _, _, _, _, _, _, _, _, _, rfl, rfl, mkRel n2 n6 hl l3 p3 hI hT hS⟩
  · rw [if_neg hP]
    have hc : ∀ (A Bq : Option (Int32 × Int32 × Int32 × ar × ar × ar × ar × ar × ar × Int32 × Int32 × (Nat → Nat → ar))), (if x1 < 1 then A else if x1 ≤ 4 then Bq else A) = A := by
      intro A Bq
      by_cases h1 : x1 < 1
      · rw [if_pos h1]
      · rw [if_neg h1, if_neg]
        rw [Int32.lt_iff_toInt_lt] at h1
        rw [Int32.le_iff_toInt_le]
        have w1 : (1 : Int32).toInt = 1 := rfl
        have w4 : (4 : Int32).toInt = 4 := rfl
        omega
    rw [hc]
    exact ⟨_, _, _, _, _, _, _, _, _, _, _, _, _, _, _, _, rfl, rfl, mkRel n2 n6 hl hK hU hI hT hS⟩
theorem op_cuts {N i : Nat} {tx : ar} {tn : Int32} {rn : Int32} {re : Int32} {rh : Int32} {ra : Int32} {rl : Int32} {rf : Int32} {dl : ar} {lt : Int32} {hp : ar} {gs : ar} {md : ar} {ct : ar} {xp : ar} {wn : ar} {wz : Int32} {tm : Int32} {la : Int32} {ps : Int32} {rv : Nat → Nat → ar} {ik : ar} {iv : Nat → Nat → ar} {sf : ar} {sg : ar} {sw : ar} {sz : Int32} {m_nodes : Int32} {m_every : Int32} {m_halves : Int32} {m_age : Int32} {m_life : Int32} {m_first : Int32} {m_now : ar} {m_undoMany : Int32} {m_undoAt : Int32} {m_undos : ar} {m_isKept : ar} {m_kept : ar} {m_letterMany : Int32} {m_text : ar} {m_seenMany : Int32} {m_seenFrom : ar} {m_seenTo : ar} {m_seen : ar} (hN : 1000 ≤ N) (hi : i < 512) (h : Rel i tx tn rn re rh ra rl rf dl lt hp gs md ct xp wn wz tm la ps rv ik iv sf sg sw sz m_nodes m_every m_halves m_age m_life m_first m_now m_undoMany m_undoAt m_undos m_isKept m_kept m_letterMany m_text m_seenMany m_seenFrom m_seenTo m_seen) (x1 : Int32) : ∃ (r : Int32) (lt_o : Int32) (dl_o : ar) (hp_o : ar) (md_o : ar) (la_o : Int32) (ps_o : Int32) (rv_o : Nat → Nat → ar) (m_undoMany_o : Int32) (m_undoAt_o : Int32) (m_now_o : ar) (m_undos_o : ar), f_X11_cuts N dl lt hp gs md ct xp wn wz tm rv la ps x1 = some (r, lt_o, dl_o, hp_o, md_o, la_o, ps_o, rv_o) ∧ f_X12_cuts N m_now m_undoMany m_undoAt m_undos x1 = some (r, m_undoMany_o, m_undoAt_o, m_now_o, m_undos_o) ∧ Rel (i + 1) tx tn rn re rh ra rl rf dl_o lt_o hp_o gs md_o ct xp wn wz tm la_o ps_o rv_o ik iv sf sg sw sz m_nodes m_every m_halves m_age m_life m_first m_now_o m_undoMany_o m_undoAt_o m_undos_o m_isKept m_kept m_letterMany m_text m_seenMany m_seenFrom m_seenTo m_seen := by
  obtain ⟨nd, life, ⟨n2, n6, rfl, rfl⟩, ⟨rfl, rfl, rfl, rfl⟩, ⟨hl, rfl, rfl⟩, hK, hU, hI, hT, hS⟩ := h
  have hpC := pairOfC_K (N := N) hK.1 (by omega) hK.2.1.1 x1
  have hpR := pairOfR_K (row := m_now) (N := N) (by omega) x1
  have e1 := encB_1 (w := lnk m_now x1) lnk_lt
  have e9 := enc_91 (w := lnk m_now x1) lnk_lt
  unfold f_X11_cuts f_X12_cuts
  rw [hpC, hpR, Option.bind_some, Option.bind_some]
  cases hw : lnk m_now x1 with
  | none =>
    rw [if_pos (show encB none = -1 from rfl), if_pos (show enc none = -9 from rfl)]
    exact ⟨_, _, _, _, _, _, _, _, _, _, _, _, rfl, rfl, mkRel n2 n6 hl hK hU hI hT hS⟩
  | some k =>
    obtain ⟨k1, k2⟩ := lnk_some hw
    rw [hw] at e1 e9
    rw [if_neg (show ¬ encB (some k) = -1 from ng1 k1), if_neg (show ¬ enc (some k) = -9 from ng9 k1)]
    have hb : encB (some k) = nI k := rfl
    have he : enc (some k) = nI k := rfl
    have h118 : (118 : Int32) + nI k = nI (118 + k) := nI_add 118 k
    have h154 : (154 : Int32) + nI k = nI (154 + k) := nI_add 154 k
    have hdv : nI k / 6 = nI (k / 6) := pk_div (d := 6) (by omega) (by omega) (by omega)
    have hrm : nI k - nI k / 6 * 6 = nI (k % 6) := pk_rem (d := 6) (by omega) (by omega) (by omega)
    rw [hb, he, h118, h154, hrm, hdv]
    simp (disch := omega) only [ckN, clN]
    obtain ⟨la', ps', rv', mm', ma', und', p1, p2, p3⟩ := push_K hN hK hU
    obtain ⟨lt', dl', hp', md', row', c1, c2, c3, c4⟩ := RK_cut (N := N) (by omega) n6 k1 k2 hK
    rw [p1, p2, Option.bind_some, Option.bind_some, c1, c2, Option.bind_some, Option.bind_some, linkMany_K (by omega), Option.bind_some, ← c4]
    exact ⟨_, _, _, _, _, _, _, _, _, _, _, _, rfl, rfl, mkRel n2 n6 hl c3 p3 hI hT hS⟩
theorem op_lays {N i : Nat} {tx : ar} {tn : Int32} {rn : Int32} {re : Int32} {rh : Int32} {ra : Int32} {rl : Int32} {rf : Int32} {dl : ar} {lt : Int32} {hp : ar} {gs : ar} {md : ar} {ct : ar} {xp : ar} {wn : ar} {wz : Int32} {tm : Int32} {la : Int32} {ps : Int32} {rv : Nat → Nat → ar} {ik : ar} {iv : Nat → Nat → ar} {sf : ar} {sg : ar} {sw : ar} {sz : Int32} {m_nodes : Int32} {m_every : Int32} {m_halves : Int32} {m_age : Int32} {m_life : Int32} {m_first : Int32} {m_now : ar} {m_undoMany : Int32} {m_undoAt : Int32} {m_undos : ar} {m_isKept : ar} {m_kept : ar} {m_letterMany : Int32} {m_text : ar} {m_seenMany : Int32} {m_seenFrom : ar} {m_seenTo : ar} {m_seen : ar} (hN : 1000 ≤ N) (hi : i < 512) (h : Rel i tx tn rn re rh ra rl rf dl lt hp gs md ct xp wn wz tm la ps rv ik iv sf sg sw sz m_nodes m_every m_halves m_age m_life m_first m_now m_undoMany m_undoAt m_undos m_isKept m_kept m_letterMany m_text m_seenMany m_seenFrom m_seenTo m_seen) (x1 x2 x3 : Int32) : ∃ (r : Int32) (lt_o : Int32) (dl_o : ar) (la_o : Int32) (ps_o : Int32) (rv_o : Nat → Nat → ar) (m_undoMany_o : Int32) (m_undoAt_o : Int32) (m_now_o : ar) (m_undos_o : ar), f_X11_lays rn dl lt hp gs md ct xp wn wz tm rv la ps x1 x2 x3 = some (r, lt_o, dl_o, la_o, ps_o, rv_o) ∧ f_X12_lays N m_nodes m_now m_undoMany m_undoAt m_undos x1 x2 x3 = some (r, m_undoMany_o, m_undoAt_o, m_now_o, m_undos_o) ∧ Rel (i + 1) tx tn rn re rh ra rl rf dl_o lt_o hp gs md ct xp wn wz tm la_o ps_o rv_o ik iv sf sg sw sz m_nodes m_every m_halves m_age m_life m_first m_now_o m_undoMany_o m_undoAt_o m_undos_o m_isKept m_kept m_letterMany m_text m_seenMany m_seenFrom m_seenTo m_seen := by
  obtain ⟨nd, life, ⟨n2, n6, rfl, rfl⟩, ⟨rfl, rfl, rfl, rfl⟩, ⟨hl, rfl, rfl⟩, hK, hU, hI, hT, hS⟩ := h
  unfold f_X11_lays f_X12_lays
  rw [unC (by omega), unR (by omega) (by omega)]
  by_cases hP : (0 ≤ x1.toInt ∧ x1.toInt < nd) ∧ (0 ≤ x2.toInt ∧ x2.toInt < nd) ∧ x1 ≠ x2
  · obtain ⟨u, hu, rfl⟩ := ndx hP.1
    obtain ⟨v, hv, rfl⟩ := ndx hP.2.1
    have huv : u ≠ v := fun e => hP.2.2 (by rw [e])
    rw [if_pos hP, if_pos hP]
    have eI := inR (α := Int32 × Int32 × Int32 × ar × ar) x3 1 9 (by omega) (by omega)
    have q0 : nI 1 = 1 := rfl
    have q2 : nI 9 = 9 := rfl
    rw [q0, q2] at eI
    rw [eI]
    by_cases hd : ((1 : Nat) : Int) ≤ x3.toInt ∧ x3.toInt ≤ ((9 : Nat) : Int)
    · have hx : x3 = nI x3.toInt.toNat := idxN (by omega)
      generalize hq : x3.toInt.toNat = d at hx
      subst hx
      have hdC : f_X11_isDelay (nI d) = some true := by
        unfold f_X11_isDelay
        rw [if_neg (show ¬ nI d < 1 from nI_nlt (b := 1) (by omega) (by omega)), if_neg (show ¬ (9 : Int32) < nI d from nI_nlt (a := 9) (by omega) (by omega))]
      rw [if_pos hd, hdC, Option.bind_some, if_neg (show ¬ b2i true = 0 from by decide), delayOf_N (show u < 6 by omega) (show v < 6 by omega), Option.bind_some, delayR_K hK.1 (show u < 6 by omega) (show v < 6 by omega), Option.bind_some]
      by_cases hz : dl (6 * u + v) ≤ 0
      · have h4 := hK.1.2.2.2.1 u v (by omega) (by omega)
        have hz0 : dl (6 * u + v) = 0 := by
          apply Int32.toInt_inj.mp
          rw [i0]
          rw [nle0] at hz
          omega
        have hlt := hK.2.1.1
        have hle := hK.2.1.2
        rw [if_pos hz, if_pos hz, linkMany_K (by omega), Option.bind_some]
        by_cases hf : cntF (lf m_now) 36 0 = 10
        · have f1 : ¬ lt < 10 := by rw [hlt, hf]; decide
          rw [if_neg f1, if_pos (by rw [hf]; rfl)]
          exact ⟨_, _, _, _, _, _, _, _, _, _, rfl, rfl, mkRel n2 n6 hl hK hU hI hT hS⟩
        · have f1 : lt < 10 := by rw [hlt]; exact nI_lt (b := 10) (by omega) (by omega)
          have f2 : ¬ nI (cntF (lf m_now) 36 0) = 10 := fun e => hf ((nI_eq (b := 10) (by omega) (by omega)).mp e)
          obtain ⟨la', ps', rv', mm', ma', und', p1, p2, p3⟩ := push_K hN hK hU
          have hp36 := pr_lt (show u < 6 by omega) (show v < 6 by omega)
          have h118 : (118 : Int32) + nI (pr u v) = nI (118 + pr u v) := nI_add 118 _
          rw [if_pos f1, if_neg f2, p1, p2, Option.bind_some, Option.bind_some, put_N (show u < 6 by omega) (show v < 6 by omega), Option.bind_some, pair_N (show u < 6 by omega) (show v < 6 by omega), Option.bind_some, h118]
          simp (disch := omega) only [ckN, clN]
          rw [linkMany_K (by omega), Option.bind_some]
          rw [if_pos hz0]
          have hcp := cnt_put (row := m_now) (p := pr u v) (d := d) hp36 (by omega)
          have hnlf : ¬ lf m_now (pr u v) = true := by
            unfold lf
            have := hK.1.1 u v (by omega) (by omega) huv
            rw [hz0] at this
            rw [← this]
            decide
          rw [if_neg hnlf, if_pos (show 0 < d by omega)] at hcp
          have hlt2 : lt + 1 = nI (cntF (lf (upd m_now (118 + pr u v) (nI d))) 36 0) := by
            rw [hlt, nI_1, show cntF (lf m_now) 36 0 + 1 = cntF (lf (upd m_now (118 + pr u v) (nI d))) 36 0 by omega]
          have hR := RK_put (d := d) (lt' := lt + 1) n6 hu hv huv (by omega) hK hlt2 (by omega)
          rw [← hlt2]
          exact ⟨_, _, _, _, _, _, _, _, _, _, rfl, rfl, mkRel n2 n6 hl hR p3 hI hT hS⟩
      · rw [if_neg hz, if_neg hz]
        exact ⟨_, _, _, _, _, _, _, _, _, _, rfl, rfl, mkRel n2 n6 hl hK hU hI hT hS⟩
    · have hdC : f_X11_isDelay x3 = some false := by
        unfold f_X11_isDelay
        by_cases h1 : x3 < 1
        · rw [if_pos h1]
        · rw [if_neg h1, if_pos]
          rw [Int32.lt_iff_toInt_lt] at h1 ⊢
          have w1 : (1 : Int32).toInt = 1 := rfl
          have w4 : (9 : Int32).toInt = 9 := rfl
          omega
      rw [if_neg hd, hdC, Option.bind_some, if_pos (show b2i false = 0 from rfl)]
      exact ⟨_, _, _, _, _, _, _, _, _, _, rfl, rfl, mkRel n2 n6 hl hK hU hI hT hS⟩
  · rw [if_neg hP, if_neg hP]
    exact ⟨_, _, _, _, _, _, _, _, _, _, rfl, rfl, mkRel n2 n6 hl hK hU hI hT hS⟩
theorem op_changes {N i : Nat} {tx : ar} {tn : Int32} {rn : Int32} {re : Int32} {rh : Int32} {ra : Int32} {rl : Int32} {rf : Int32} {dl : ar} {lt : Int32} {hp : ar} {gs : ar} {md : ar} {ct : ar} {xp : ar} {wn : ar} {wz : Int32} {tm : Int32} {la : Int32} {ps : Int32} {rv : Nat → Nat → ar} {ik : ar} {iv : Nat → Nat → ar} {sf : ar} {sg : ar} {sw : ar} {sz : Int32} {m_nodes : Int32} {m_every : Int32} {m_halves : Int32} {m_age : Int32} {m_life : Int32} {m_first : Int32} {m_now : ar} {m_undoMany : Int32} {m_undoAt : Int32} {m_undos : ar} {m_isKept : ar} {m_kept : ar} {m_letterMany : Int32} {m_text : ar} {m_seenMany : Int32} {m_seenFrom : ar} {m_seenTo : ar} {m_seen : ar} (hN : 1000 ≤ N) (hi : i < 512) (h : Rel i tx tn rn re rh ra rl rf dl lt hp gs md ct xp wn wz tm la ps rv ik iv sf sg sw sz m_nodes m_every m_halves m_age m_life m_first m_now m_undoMany m_undoAt m_undos m_isKept m_kept m_letterMany m_text m_seenMany m_seenFrom m_seenTo m_seen) (x1 x2 : Int32) : ∃ (r : Int32) (lt_o : Int32) (dl_o : ar) (la_o : Int32) (ps_o : Int32) (rv_o : Nat → Nat → ar) (m_undoMany_o : Int32) (m_undoAt_o : Int32) (m_now_o : ar) (m_undos_o : ar), f_X11_changes N dl lt hp gs md ct xp wn wz tm rv la ps x1 x2 = some (r, lt_o, dl_o, la_o, ps_o, rv_o) ∧ f_X12_changes N m_now m_undoMany m_undoAt m_undos x1 x2 = some (r, m_undoMany_o, m_undoAt_o, m_now_o, m_undos_o) ∧ Rel (i + 1) tx tn rn re rh ra rl rf dl_o lt_o hp gs md ct xp wn wz tm la_o ps_o rv_o ik iv sf sg sw sz m_nodes m_every m_halves m_age m_life m_first m_now_o m_undoMany_o m_undoAt_o m_undos_o m_isKept m_kept m_letterMany m_text m_seenMany m_seenFrom m_seenTo m_seen := by
  obtain ⟨nd, life, ⟨n2, n6, rfl, rfl⟩, ⟨rfl, rfl, rfl, rfl⟩, ⟨hl, rfl, rfl⟩, hK, hU, hI, hT, hS⟩ := h
  have hpC := pairOfC_K (N := N) hK.1 (by omega) hK.2.1.1 x1
  have hpR := pairOfR_K (row := m_now) (N := N) (by omega) x1
  have e1 := encB_1 (w := lnk m_now x1) lnk_lt
  have e9 := enc_91 (w := lnk m_now x1) lnk_lt
  unfold f_X11_changes f_X12_changes
  rw [hpC, hpR, Option.bind_some, Option.bind_some]
  cases hw : lnk m_now x1 with
  | none =>
    rw [if_pos (show encB none = -1 from rfl), if_pos (show enc none = -9 from rfl)]
    exact ⟨_, _, _, _, _, _, _, _, _, _, rfl, rfl, mkRel n2 n6 hl hK hU hI hT hS⟩
  | some k =>
    obtain ⟨k1, k2⟩ := lnk_some hw
    obtain ⟨a1, a2, a3, a4, a5, a6⟩ := hK.1.pair k1 k2
    rw [hw] at e1 e9
    rw [if_neg (show ¬ encB (some k) = -1 from ng1 k1), if_neg (show ¬ enc (some k) = -9 from ng9 k1)]
    have hb : encB (some k) = nI k := rfl
    have he : enc (some k) = nI k := rfl
    have h118 : (118 : Int32) + nI k = nI (118 + k) := nI_add 118 k
    have hdv : nI k / 6 = nI (k / 6) := pk_div (d := 6) (by omega) (by omega) (by omega)
    have hrm : nI k - nI k / 6 * 6 = nI (k % 6) := pk_rem (d := 6) (by omega) (by omega) (by omega)
    rw [hb, he, h118, hrm, hdv]
    have eI := inR (α := Int32 × Int32 × Int32 × ar × ar) x2 1 9 (by omega) (by omega)
    have q0 : nI 1 = 1 := rfl
    have q2 : nI 9 = 9 := rfl
    rw [q0, q2] at eI
    rw [eI]
    simp (disch := omega) only [ckN, clN]
    by_cases hd : ((1 : Nat) : Int) ≤ x2.toInt ∧ x2.toInt ≤ ((9 : Nat) : Int)
    · have hx : x2 = nI x2.toInt.toNat := idxN (by omega)
      generalize hq : x2.toInt.toNat = d at hx
      subst hx
      have hdC : f_X11_isDelay (nI d) = some true := by
        unfold f_X11_isDelay
        rw [if_neg (show ¬ nI d < 1 from nI_nlt (b := 1) (by omega) (by omega)), if_neg (show ¬ (9 : Int32) < nI d from nI_nlt (a := 9) (by omega) (by omega))]
      rw [if_pos hd, hdC, Option.bind_some, if_neg (show ¬ b2i true = 0 from by decide), a4]
      by_cases hs : m_now (118 + k) = nI d
      · rw [if_pos hs, if_pos hs]
        exact ⟨_, _, _, _, _, _, _, _, _, _, rfl, rfl, mkRel n2 n6 hl hK hU hI hT hS⟩
      · obtain ⟨la', ps', rv', mm', ma', und', p1, p2, p3⟩ := push_K hN hK hU
        have hpr : pr (k / 6) (k % 6) = k := by unfold pr; rw [if_neg (by omega)]; omega
        have hnz : ¬ dl (6 * (k / 6) + k % 6) = 0 := by
          rw [← a3, a4]
          intro e
          rw [e, i0] at k2
          omega
        rw [if_neg hs, if_neg hs, p1, p2, Option.bind_some, Option.bind_some, put_N (show k / 6 < 6 by omega) a2, Option.bind_some, if_neg hnz]
        have hcp := cnt_put (row := m_now) (p := k) (d := d) k1 (by omega)
        rw [if_pos (show lf m_now k = true from decide_eq_true k2), if_pos (show 0 < d by omega)] at hcp
        have hlt := hK.2.1.1
        have hle := hK.2.1.2
        have hR := RK_put (d := d) (lt' := lt) n6 a5 a6 (by omega) (by omega) hK (by rw [hpr, hlt, show cntF (lf (upd m_now (118 + k) (nI d))) 36 0 = cntF (lf m_now) 36 0 by omega]) (by rw [hpr]; omega)
        rw [hpr] at hR
        exact ⟨_, _, _, _, _, _, _, _, _, _, rfl, rfl, mkRel n2 n6 hl hR p3 hI hT hS⟩
    · have hdC : f_X11_isDelay x2 = some false := by
        unfold f_X11_isDelay
        by_cases h1 : x2 < 1
        · rw [if_pos h1]
        · rw [if_neg h1, if_pos]
          rw [Int32.lt_iff_toInt_lt] at h1 ⊢
          have w1 : (1 : Int32).toInt = 1 := rfl
          have w4 : (9 : Int32).toInt = 9 := rfl
          omega
      rw [if_neg hd, hdC, Option.bind_some, if_pos (show b2i false = 0 from rfl)]
      exact ⟨_, _, _, _, _, _, _, _, _, _, rfl, rfl, mkRel n2 n6 hl hK hU hI hT hS⟩
theorem op_undo {N i : Nat} {tx : ar} {tn : Int32} {rn : Int32} {re : Int32} {rh : Int32} {ra : Int32} {rl : Int32} {rf : Int32} {dl : ar} {lt : Int32} {hp : ar} {gs : ar} {md : ar} {ct : ar} {xp : ar} {wn : ar} {wz : Int32} {tm : Int32} {la : Int32} {ps : Int32} {rv : Nat → Nat → ar} {ik : ar} {iv : Nat → Nat → ar} {sf : ar} {sg : ar} {sw : ar} {sz : Int32} {m_nodes : Int32} {m_every : Int32} {m_halves : Int32} {m_age : Int32} {m_life : Int32} {m_first : Int32} {m_now : ar} {m_undoMany : Int32} {m_undoAt : Int32} {m_undos : ar} {m_isKept : ar} {m_kept : ar} {m_letterMany : Int32} {m_text : ar} {m_seenMany : Int32} {m_seenFrom : ar} {m_seenTo : ar} {m_seen : ar} (hN : 1000 ≤ N) (hi : i < 512) (h : Rel i tx tn rn re rh ra rl rf dl lt hp gs md ct xp wn wz tm la ps rv ik iv sf sg sw sz m_nodes m_every m_halves m_age m_life m_first m_now m_undoMany m_undoAt m_undos m_isKept m_kept m_letterMany m_text m_seenMany m_seenFrom m_seenTo m_seen) : ∃ (r : Int32) (wz_o : Int32) (tm_o : Int32) (lt_o : Int32) (dl_o : ar) (hp_o : ar) (gs_o : ar) (md_o : ar) (ct_o : ar) (xp_o : ar) (wn_o : ar) (la_o : Int32) (ps_o : Int32) (m_undoMany_o : Int32) (m_undoAt_o : Int32) (m_now_o : ar), f_X11_undo dl lt hp gs md ct xp wn wz tm rv la ps = some (r, wz_o, tm_o, lt_o, dl_o, hp_o, gs_o, md_o, ct_o, xp_o, wn_o, la_o, ps_o) ∧ f_X12_undo N m_now m_undoMany m_undoAt m_undos = some (r, m_undoMany_o, m_undoAt_o, m_now_o) ∧ Rel (i + 1) tx tn rn re rh ra rl rf dl_o lt_o hp_o gs_o md_o ct_o xp_o wn_o wz_o tm_o la_o ps_o rv ik iv sf sg sw sz m_nodes m_every m_halves m_age m_life m_first m_now_o m_undoMany_o m_undoAt_o m_undos m_isKept m_kept m_letterMany m_text m_seenMany m_seenFrom m_seenTo m_seen := by
  obtain ⟨nd, life, ⟨n2, n6, rfl, rfl⟩, ⟨rfl, rfl, rfl, rfl⟩, ⟨hl, rfl, rfl⟩, hK, hU, hI, hT, hS⟩ := h
  obtain ⟨r, wz', tm', lt', dl', hp', gs', md', ct', xp', wn', la', ps', mm', ma', row', h1, h2, h3, h4⟩ := pop_K hN hK hU
  exact ⟨_, _, _, _, _, _, _, _, _, _, _, _, _, _, _, _, h1, h2, mkRel n2 n6 hl h3 h4 hI hT hS⟩
