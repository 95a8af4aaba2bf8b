/-- the row behind a hop -/
def rowH (row : ar) (u v c : Nat) (j G : Int32) : ar := upd (upd (upd (upd (upd (upd row (106 + u) (row (106 + u) + 1)) (112 + u) (row (112 + u) + j)) 0 (row 0 + 1)) (154 + pr u v) (row (154 + pr u v) + 1)) (190 + c) G) (406 + c) (row 0 + 1)
theorem ck0 {α : Type} {x : Option α} : ck (inb 0 622) x = x := ckN (a := 0) (by omega) (by omega)
theorem ck1 {α : Type} {x : Option α} : ck (inb 1 622) x = x := ckN (a := 1) (by omega) (by omega)
theorem ck2 {α : Type} {x : Option α} : ck (inb 2 622) x = x := ckN (a := 2) (by omega) (by omega)
theorem z0 : ((0 : Int32)).toNatClampNeg = 0 := rfl
theorem z1 : ((1 : Int32)).toNatClampNeg = 1 := rfl
theorem z2 : ((2 : Int32)).toNatClampNeg = 2 := rfl
theorem hopsR {N nd : Nat} {re rh ra rf : Int32} {dl gs md ct row : ar} {tm : Int32} {u g v : Nat} (hK : LK nd dl row) (hG : GD md gs row) (ht : tm = row 0) (hc : ct u = row (106 + u)) (hN : 7 ≤ N) (h0 : 0 < nd) (hn : nd ≤ 6) (hu : u < 6) (hg : g < 6) (hv : v < 6) (huv : u ≠ v) (hnv : nbr dl u v) (hch : chN nd re ra rf dl gs md ct tm u g = some v) : f_X12_hops N (nI nd) re rh ra rf row (nI u) (nI g) = some (nI v, rowH row u v (36 * u + 6 * g + v) (if xpl re (ct u + 1) = true then 1 else 0) (mnd (gv ra rf gs md (tm + 1) (36 * u + 6 * g + v)) (64 * dl (6 * u + v) + told nd ra rf dl gs md (tm + 1) v g) rh)) := by
  have h106 : ∀ c : Nat, (106 : Int32) + nI c = nI (106 + c) := fun c => nI_add 106 c
  have h112 : ∀ c : Nat, (112 : Int32) + nI c = nI (112 + c) := fun c => nI_add 112 c
  have h154 : ∀ c : Nat, (154 : Int32) + nI c = nI (154 + c) := fun c => nI_add 154 c
  have h190 : ∀ c : Nat, (190 : Int32) + nI c = nI (190 + c) := fun c => nI_add 190 c
  have h406 : ∀ c : Nat, (406 : Int32) + nI c = nI (406 + c) := fun c => nI_add 406 c
  have hp := pr_lt hu hv
  unfold f_X12_hops
  simp (disch := omega) only [h106, h112, ckN, clN, pk_us, pk_un]
  have hj : (if re ≤ 0 then some (0 : Int32) else ck (nz re) (if row (106 + u) + 1 - (row (106 + u) + 1) / re * re = 0 then some 1 else some 0)) = some (if xpl re (ct u + 1) = true then 1 else 0) := by
    rw [hc]
    unfold xpl
    by_cases he : re ≤ 0
    · rw [if_pos he, if_neg (by simp [he])]
    · rw [if_neg he]
      have hz : ¬ re = 0 := fun e => he (by rw [e]; decide)
      have hnz : nz re = true := decide_eq_true hz
      rw [hnz]
      by_cases h1 : row (106 + u) + 1 - (row (106 + u) + 1) / re * re = 0
      · rw [if_pos (show decide (¬ re ≤ 0 ∧ row (106 + u) + 1 - (row (106 + u) + 1) / re * re = 0) = true from decide_eq_true ⟨he, h1⟩)]
        simp only [ck, if_pos h1]
      · rw [if_neg (show ¬ decide (¬ re ≤ 0 ∧ row (106 + u) + 1 - (row (106 + u) + 1) / re * re = 0) = true from fun q => h1 (of_decide_eq_true q).2)]
        simp only [ck, if_neg h1]
  rw [hj, Option.bind_some]
  have hj2 : (if (if xpl re (ct u + 1) = true then (1 : Int32) else 0) = 0 then some (0 : Int32) else some 1) = some (if xpl re (ct u + 1) = true then 1 else 0) := by
    by_cases h : xpl re (ct u + 1) = true
    · rw [if_pos h]; rfl
    · rw [if_neg h]; rfl
  rw [hj2, Option.bind_some]
  generalize hJ : (if xpl re (ct u + 1) = true then (1 : Int32) else 0) = J
  generalize hB1 : upd (upd row (106 + u) (row (106 + u) + 1)) (112 + u) (row (112 + u) + J) = B1
  have b1 : ∀ k, (k < 106 ∨ 118 ≤ k) → B1 k = row k := by
    intro k hk
    rw [← hB1]
    simp (disch := omega) only [pk_un]
  have KB : LK nd dl B1 := hK.rc2 (fun k h1 h2 => b1 k (by omega))
  have GB : GD md gs B1 := hG.rc2 (fun k h1 h2 => b1 k (by omega))
  have hv1 : (if J = 0 then (f_X12_bestOf N (nI nd) ra rf B1 (nI u) (nI g)).bind (fun r => some r) else (f_X12_eldestOf N (nI nd) B1 (nI u) (nI g)).bind (fun r => some r)) = some (nI v) := by
    have ht1 : tm = B1 0 := by rw [ht, b1 0 (by omega)]
    rw [bestR_K KB GB ht1 hN h0 hn hu hg, eldR_K KB GB hN h0 hn hu hg]
    unfold chN at hch
    by_cases h : xpl re (ct u + 1) = true
    · rw [if_pos h] at hch hJ
      rw [if_neg (by rw [← hJ]; decide), hch]
      rfl
    · rw [if_neg h] at hch hJ
      rw [if_pos hJ.symm, hch]
      rfl
  rw [hv1, Option.bind_some]
  simp only [ck0, z0]
  rw [pair_N hu hv, Option.bind_some]
  simp (disch := omega) only [h154, ckN, clN, pk_us, pk_un]
  rw [b1 0 (by omega), b1 (154 + pr u v) (by omega)]
  generalize hD : upd (upd B1 0 (row 0 + 1)) (154 + pr u v) (row (154 + pr u v) + 1) = D1
  have d1 : ∀ k, k ≠ 0 → (k < 106 ∨ (118 ≤ k ∧ k < 154) ∨ 190 ≤ k) → D1 k = row k := by
    intro k hk0 hk
    rw [← hD]
    simp (disch := omega) only [pk_un]
    exact b1 k (by omega)
  have d0 : D1 0 = row 0 + 1 := by
    rw [← hD]
    simp (disch := omega) only [pk_un, pk_us]
  have KD : LK nd dl D1 := hK.rc2 (fun k h1 h2 => d1 k (by omega) (by omega))
  have GDD : GD md gs D1 := hG.rc2 (fun k h1 h2 => d1 k (by omega) (by omega))
  have htd : tm + 1 = D1 0 := by rw [d0, ht]
  rw [delayR_K KD hu hv, Option.bind_some]
  have htl : (if nI v = nI g then some (64 * dl (6 * u + v), D1) else (f_X12_bestOf N (nI nd) ra rf D1 (nI v) (nI g)).bind (fun r_10 => (f_X12_guessNow ra rf D1 (nI v) (nI g) r_10).bind (fun r_11 => some (64 * dl (6 * u + v) + r_11, D1)))) = some (64 * dl (6 * u + v) + told nd ra rf dl gs md (tm + 1) v g, D1) := by
    unfold told
    by_cases e : v = g
    · rw [if_pos (by rw [e]), if_pos e]
      congr 2
      apply Int32.toInt_inj.mp
      simp
    · rw [if_neg (fun q => e ((nI_eq (by omega) (by omega)).mp q)), if_neg e, bestR_K KD GDD htd hN h0 hn hv hg, Option.bind_some]
      have hsym : nbr dl v u := by
        unfold nbr at hnv ⊢
        have q1 := hK.1 u v hu hv huv
        have q2 := hK.1 v u hv hu (fun e => huv e.symm)
        have q3 : pr v u = pr u v := by
          unfold pr
          by_cases h : v ≤ u
          · rw [if_neg (by omega), if_pos h]
          · rw [if_pos (by omega), if_neg h]
        rw [q3] at q2
        rw [q2, ← q1]
        exact hnv
      obtain ⟨x, hx1, hx2, hx3⟩ := bestN_some (ra := ra) (rf := rf) (gs := gs) (md := md) (tm := tm + 1) (g := g) hK hv ⟨u, hu, hsym⟩
      rw [hx3]
      have : f_X12_guessNow ra rf D1 (nI v) (nI g) (enc (some x)) = some (gv ra rf gs md (tm + 1) (36 * v + 6 * g + x)) := guessR_K GDD htd hv hg (by omega)
      rw [this]
      rfl
  rw [htl, Option.bind_some]
  dsimp only
  rw [guessR_K GDD htd hu hg hv, Option.bind_some, guessAt_N, Option.bind_some]
  simp (disch := omega) only [h190, h406, ckN, clN, pk_us, pk_un, d0]
  unfold mnd rowH
  generalize gv ra rf gs md (tm + 1) (36 * u + 6 * g + v) + ((64 * dl (6 * u + v) + told nd ra rf dl gs md (tm + 1) v g - gv ra rf gs md (tm + 1) (36 * u + 6 * g + v)) >>> (rh &&& 31)) = X
  rw [← hD, ← hB1]
  by_cases hX : X ≤ 63936
  · rw [if_pos hX, if_neg (by rw [Int32.lt_iff_toInt_lt]; rw [Int32.le_iff_toInt_le] at hX; omega)]
  · rw [if_neg hX, if_pos (by rw [Int32.lt_iff_toInt_lt]; rw [Int32.le_iff_toInt_le] at hX; omega)]
