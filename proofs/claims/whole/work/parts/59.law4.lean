theorem lt_of_gt {L i : Nat} (hL : L ≤ 2048) (hi : i < 2147483648) (h : ¬ Int32.ofNat L - 4 < nI i) : i + 4 ≤ L := by
  by_cases h4 : 4 ≤ L
  · obtain ⟨j, rfl⟩ : ∃ j, L = j + 4 := ⟨L - 4, by omega⟩
    have e : Int32.ofNat (j + 4) - 4 = nI j := by
      have e1 : nI j + 4 = nI (j + 4) := nI_add j 4
      show nI (j + 4) - 4 = nI j
      rw [← e1, Int32.add_sub_cancel]
    rw [e] at h
    have : ¬ j < i := fun q => h (nI_lt q (by omega))
    omega
  · exfalso
    apply h
    rw [Int32.lt_iff_toInt_lt, nI_toInt hi]
    rcases (show L = 0 ∨ L = 1 ∨ L = 2 ∨ L = 3 by omega) with rfl | rfl | rfl | rfl
    · have : (Int32.ofNat 0 - 4).toInt = -4 := by decide
      omega
    · have : (Int32.ofNat 1 - 4).toInt = -3 := by decide
      omega
    · have : (Int32.ofNat 2 - 4).toInt = -2 := by decide
      omega
    · have : (Int32.ofNat 3 - 4).toInt = -1 := by decide
      omega
theorem Rel.up {i : Nat} {tx : ar} {tn : Int32} {rn : Int32} {re : Int32} {rh : Int32} {ra : Int32} {rl : Int32} {rf : Int32} {dl : ar} {lt : Int32} {hp : ar} {gs : ar} {md : ar} {ct : ar} {xp : ar} {wn : ar} {wz : Int32} {tm : Int32} {la : Int32} {ps : Int32} {rv : Nat → Nat → ar} {ik : ar} {iv : Nat → Nat → ar} {sf : ar} {sg : ar} {sw : ar} {sz : Int32} {m_nodes : Int32} {m_every : Int32} {m_halves : Int32} {m_age : Int32} {m_life : Int32} {m_first : Int32} {m_now : ar} {m_undoMany : Int32} {m_undoAt : Int32} {m_undos : ar} {m_isKept : ar} {m_kept : ar} {m_letterMany : Int32} {m_text : ar} {m_seenMany : Int32} {m_seenFrom : ar} {m_seenTo : ar} {m_seen : ar} (h : Rel i tx tn rn re rh ra rl rf dl lt hp gs md ct xp wn wz tm la ps rv ik iv sf sg sw sz m_nodes m_every m_halves m_age m_life m_first m_now m_undoMany m_undoAt m_undos m_isKept m_kept m_letterMany m_text m_seenMany m_seenFrom m_seenTo m_seen) : Rel (i + 1) tx tn rn re rh ra rl rf dl lt hp gs md ct xp wn wz tm la ps rv ik iv sf sg sw sz m_nodes m_every m_halves m_age m_life m_first m_now m_undoMany m_undoAt m_undos m_isKept m_kept m_letterMany m_text m_seenMany m_seenFrom m_seenTo m_seen := by
  obtain ⟨nd, life, ⟨n2, n6, rfl, rfl⟩, ⟨rfl, rfl, rfl, rfl⟩, ⟨hl, rfl, rfl⟩, hK, hU, hI, hT, hS⟩ := h
  exact mkRel n2 n6 hl hK hU hI hT hS
theorem tb_0 {b : Nat} {s : State} (hts : ∀ w ∈ lw_tbl, w.before #[Value.ref b] s = true) : tb s := fun w hw hg _ => word_at (args := #[Value.ref b]) (State.WarmedH.refl s) (good_of_word hg) (hts w hw)
theorem nst_0 {b : Nat} {s : State} (hts : ∀ w ∈ lw_tbl, w.before #[Value.ref b] s = true) : ∀ q ∈ nst, va_Nw (.methodLinkNest q.1 q.2.1 q.2.2 RX11) s := by
  intro q hq
  unfold nst at hq
  simp only [List.mem_cons, List.not_mem_nil, or_false] at hq
  rcases hq with rfl | rfl | rfl | rfl | rfl | rfl | rfl | rfl | rfl | rfl | rfl | rfl | rfl | rfl
  · exact va_tabs (A := #[Value.ref b]) (u := s) rfl rfl (hts (Cond.methodLinkNest RX11 11 yX9_init RX11) (List.mem_of_getElem? (i := 53) (by decide +kernel)))
  · exact va_tabs (A := #[Value.ref b]) (u := s) rfl rfl (hts (Cond.methodLinkNest RX11 34 yX1_init RX11) (List.mem_of_getElem? (i := 170) (by decide +kernel)))
  · exact va_tabs (A := #[Value.ref b]) (u := s) rfl rfl (hts (Cond.methodLinkNest RX11 73 yX2_init RX11) (List.mem_of_getElem? (i := 296) (by decide +kernel)))
  · exact va_tabs (A := #[Value.ref b]) (u := s) rfl rfl (hts (Cond.methodLinkNest RX11 80 yX8_init RX11) (List.mem_of_getElem? (i := 309) (by decide +kernel)))
  · exact va_tabs (A := #[Value.ref b]) (u := s) rfl rfl (hts (Cond.methodLinkNest RX0 21 yX1_init RX11) (List.mem_of_getElem? (i := 261) (by decide +kernel)))
  · exact va_tabs (A := #[Value.ref b]) (u := s) rfl rfl (hts (Cond.methodLinkNest RX1 11 yX3_init RX11) (List.mem_of_getElem? (i := 175) (by decide +kernel)))
  · exact va_tabs (A := #[Value.ref b]) (u := s) rfl rfl (hts (Cond.methodLinkNest RX1 64 yX11_pairCell RX11) (List.mem_of_getElem? (i := 546) (by decide +kernel)))
  · exact va_tabs (A := #[Value.ref b]) (u := s) rfl rfl (hts (Cond.methodLinkNest RX1 68 yX11_guessCell RX11) (List.mem_of_getElem? (i := 569) (by decide +kernel)))
  · exact va_tabs (A := #[Value.ref b]) (u := s) rfl rfl (hts (Cond.methodLinkNest RX2 19 yX11_pairCell RX11) (List.mem_of_getElem? (i := 645) (by decide +kernel)))
  · exact va_tabs (A := #[Value.ref b]) (u := s) rfl rfl (hts (Cond.methodLinkNest RX3 31 yX11_pairCell RX11) (List.mem_of_getElem? (i := 420) (by decide +kernel)))
  · exact va_tabs (A := #[Value.ref b]) (u := s) rfl rfl (hts (Cond.methodLinkNest RX4 17 yX1_init RX11) (List.mem_of_getElem? (i := 242) (by decide +kernel)))
  · exact va_tabs (A := #[Value.ref b]) (u := s) rfl rfl (hts (Cond.methodLinkNest RX5 19 yX11_guessCell RX11) (List.mem_of_getElem? (i := 512) (by decide +kernel)))
  · exact va_tabs (A := #[Value.ref b]) (u := s) rfl rfl (hts (Cond.methodLinkNest RX5 48 yX11_pairCell RX11) (List.mem_of_getElem? (i := 511) (by decide +kernel)))
  · exact va_tabs (A := #[Value.ref b]) (u := s) rfl rfl (hts (Cond.methodLinkNest RX6 20 yX3_init RX11) (List.mem_of_getElem? (i := 123) (by decide +kernel)))
theorem arr_0 {b : Nat} {s : State} {ty : FieldType} (h : (Cond.arrayClass ty).before #[Value.ref b] s = true) : ∃ cA : ClassId, ArrOfT s cA ty ∧ s.vm.findClass ("[" ++ ty.toString) = some cA := by
  obtain ⟨cA, kA, comp, h1, h2, h3⟩ := Cond.arrayClass_spec h
  exact ⟨cA, fun n z => ⟨fun k h => (by cases h), kA, h2, comp, h3⟩, h1⟩
theorem arrq_0 {b : Nat} {s : State} {C : String} (h : (Cond.arrayOver (.object C)).before #[Value.ref b] s = true) : ∃ cA : ClassId, ArrOfT s cA (.object C) ∧ va_RA s cA (.object C) := by
  obtain ⟨comp, c, k, h1, h2, h3, h4, h5⟩ := Cond.arrayOver_spec h
  exact ⟨c, fun n z => ⟨fun k h => (by cases h), k, h3, comp, h4⟩, k, comp, h3, h4, h1, h5⟩
theorem kq_0 {b : Nat} {s : State} (hts : ∀ w ∈ lw_tbl, w.before #[Value.ref b] s = true) : ∃ (D : va_G) (cI cZ cK : ClassId), kq D cI cZ cK s := by
  have htb := tb_0 hts
  obtain ⟨c0, i0, k0⟩ := u_known (C := RX0) (T := TX0) (N := 2) (n := 2) (lay_X0 htb #[]) (fun _ h => h) (htb (Cond.instantiable "AskedRoutes$Images" 2) (List.mem_of_getElem? (i := 255) (by decide +kernel)) rfl #[])
  obtain ⟨c1, i1, k1⟩ := u_known (C := RX1) (T := TX1) (N := 9) (n := 9) (lay_X1 htb #[]) (fun _ h => h) (htb (Cond.instantiable "AskedRoutes$Known" 9) (List.mem_of_getElem? (i := 169) (by decide +kernel)) rfl #[])
  obtain ⟨c2, i2, k2⟩ := u_known (C := RX2) (T := TX2) (N := 2) (n := 2) (lay_X2 htb #[]) (fun _ h => h) (htb (Cond.instantiable "AskedRoutes$LeastWays" 2) (List.mem_of_getElem? (i := 295) (by decide +kernel)) rfl #[])
  obtain ⟨c3, i3, k3⟩ := u_known (C := RX3) (T := TX3) (N := 2) (n := 2) (lay_X3 htb #[]) (fun _ h => h) (htb (Cond.instantiable "AskedRoutes$Links" 2) (List.mem_of_getElem? (i := 122) (by decide +kernel)) rfl #[])
  obtain ⟨c4, i4, k4⟩ := u_known (C := RX4) (T := TX4) (N := 3) (n := 3) (lay_X4 htb #[]) (fun _ h => h) (htb (Cond.instantiable "AskedRoutes$Past" 3) (List.mem_of_getElem? (i := 235) (by decide +kernel)) rfl #[])
  obtain ⟨c5, i5, k5⟩ := u_known (C := RX5) (T := TX5) (N := 2) (n := 2) (lay_X5 htb #[]) (fun _ h => h) (htb (Cond.instantiable "AskedRoutes$Post" 2) (List.mem_of_getElem? (i := 221) (by decide +kernel)) rfl #[])
  obtain ⟨c6, i6, k6⟩ := u_known (C := RX6) (T := TX6) (N := 8) (n := 8) (lay_X6 htb #[]) (fun _ h => h) (htb (Cond.instantiable "AskedRoutes$Reader" 8) (List.mem_of_getElem? (i := 69) (by decide +kernel)) rfl #[])
  obtain ⟨c7, i7, k7⟩ := u_known (C := RX7) (T := TX7) (N := 6) (n := 6) (lay_X7 htb #[]) (fun _ h => h) (htb (Cond.instantiable "AskedRoutes$Rules" 6) (List.mem_of_getElem? (i := 75) (by decide +kernel)) rfl #[])
  obtain ⟨c8, i8, k8⟩ := u_known (C := RX8) (T := TX8) (N := 4) (n := 4) (lay_X8 htb #[]) (fun _ h => h) (htb (Cond.instantiable "AskedRoutes$Sights" 4) (List.mem_of_getElem? (i := 308) (by decide +kernel)) rfl #[])
  obtain ⟨c9, i9, k9⟩ := u_known (C := RX9) (T := TX9) (N := 2) (n := 2) (lay_X9 htb #[]) (fun _ h => h) (htb (Cond.instantiable "AskedRoutes$Text" 2) (List.mem_of_getElem? (i := 52) (by decide +kernel)) rfl #[])
  obtain ⟨c10, i10, k10⟩ := u_known (C := RX10) (T := TX10) (N := 4) (n := 4) (lay_X10 htb #[]) (fun _ h => h) (htb (Cond.instantiable "AskedRoutes$Trail" 4) (List.mem_of_getElem? (i := 273) (by decide +kernel)) rfl #[])
  obtain ⟨c11, i11, k11⟩ := u_known (C := RX11) (T := TX11) (N := 10) (n := 10) (lay_X11 htb #[]) (fun _ h => h) (htb (Cond.instantiable "AskedRoutes" 10) (List.mem_of_getElem? (i := 44) (by decide +kernel)) rfl #[])
  obtain ⟨c12, i12, k12⟩ := u_known (C := RX12) (T := TX12) (N := 33) (n := 33) (lay_X12 htb #[]) (fun _ h => h) (htb (Cond.instantiable "AskedRoutesModel" 33) (List.mem_of_getElem? (i := 717) (by decide +kernel)) rfl #[])
  obtain ⟨cI, hI1, hI2⟩ := arr_0 (hts (Cond.arrayClass .int) (List.mem_of_getElem? (i := 67) (by decide +kernel)))
  obtain ⟨cZ, hZ1, hZ2⟩ := arr_0 (hts (Cond.arrayClass .boolean) (List.mem_of_getElem? (i := 271) (by decide +kernel)))
  obtain ⟨cK, hK1, hK2⟩ := arrq_0 (C := RX1) (hts (Cond.arrayOver (.object RX1)) (List.mem_of_getElem? (i := 241) (by decide +kernel)))
  refine ⟨(fun k => match k with | 0 => c0 | 1 => c1 | 2 => c2 | 3 => c3 | 4 => c4 | 5 => c5 | 6 => c6 | 7 => c7 | 8 => c8 | 9 => c9 | 10 => c10 | 11 => c11 | 12 => c12 | _ => c0, fun k => match k with | 0 => i0 | 1 => i1 | 2 => i2 | 3 => i3 | 4 => i4 | 5 => i5 | 6 => i6 | 7 => i7 | 8 => i8 | 9 => i9 | 10 => i10 | 11 => i11 | 12 => i12 | _ => i0), cI, cZ, cK, ⟨?_, ?_⟩, htb, nst_0 hts, va_AO.of (hts (Cond.arrayOver (.object RX1)) (List.mem_of_getElem? (i := 241) (by decide +kernel)))⟩
  · intro c q hq
    match c, hq with
    | 0, hq => cases hq; exact k0
    | 1, hq => cases hq; exact k1
    | 2, hq => cases hq; exact k2
    | 3, hq => cases hq; exact k3
    | 4, hq => cases hq; exact k4
    | 5, hq => cases hq; exact k5
    | 6, hq => cases hq; exact k6
    | 7, hq => cases hq; exact k7
    | 8, hq => cases hq; exact k8
    | 9, hq => cases hq; exact k9
    | 10, hq => cases hq; exact k10
    | 11, hq => cases hq; exact k11
    | 12, hq => cases hq; exact k12
    | c + 13, hq => simp [vwCl] at hq
  · intro k q hq
    match k, hq with
    | 0, hq => cases hq; exact ⟨hI1, hI2⟩
    | 1, hq => cases hq; exact ⟨hZ1, hZ2⟩
    | 2, hq => cases hq; exact ⟨hK1, hK2⟩
    | k + 3, hq => simp [tys0] at hq
set_option maxRecDepth 100000 in
set_option maxHeartbeats 4000000 in
theorem law_loop {p : Program} {l : Launch} {e : Env} {s : State} {m : MethodId} {below : List Frame} {meth : Method} {c : Code} {D : va_G} {cI cZ cK : ClassId} {b L : Nat} {xs : Nat → Int32} {cA rA : Nat → Nat} {rga iga : Nat → Nat → Nat} (hL : L ≤ 2048) (hk : kq D cI cZ cK s) (C0 : lw_At p s m meth c b L xs) : ∀ (n k : Nat), k ≤ 512 → 513 ≤ k + n → ∀ (tx : ar) (tn : Int32) (qrn : Int32) (qre : Int32) (qrh : Int32) (qra : Int32) (qrl : Int32) (qrf : Int32) (qdl : ar) (qlt : Int32) (it : Int32) (kd : Int32) (nu : Int32) (pl : Int32) (nx : Int32) (rn : Int32) (re : Int32) (rh : Int32) (ra : Int32) (rl : Int32) (rf : Int32) (dl : ar) (lt : Int32) (hp : ar) (gs : ar) (md : ar) (ct : ar) (xp : ar) (wn : ar) (wz : Int32) (tm : Int32) (rv : Nat → Nat → ar) (la : Int32) (ps : Int32) (iv : Nat → Nat → ar) (ik : ar) (pn : ar) (pz : Int32) (pd : Int32) (sm : ar) (sn : Int32) (sf : ar) (sg : ar) (sw : ar) (sz : Int32) (m_nodes : Int32) (m_every : Int32) (m_halves : Int32) (m_age : Int32) (m_life : Int32) (m_first : Int32) (m_now : ar) (m_undoMany : Int32) (m_undoAt : Int32) (m_undos : ar) (m_isKept : ar) (m_kept : ar) (m_letterMany : Int32) (m_text : ar) (m_readAt : Int32) (m_tokenAt : Int32) (m_token : Int32) (m_newNodes : Int32) (m_newEvery : Int32) (m_newHalves : Int32) (m_newAge : Int32) (m_newLife : Int32) (m_newFirst : Int32) (m_newLinks : Int32) (m_newDelay : ar) (m_pathMany : Int32) (m_pathDelay : Int32) (m_path : ar) (m_far : ar) (m_seenMany : Int32) (m_seenFrom : ar) (m_seenTo : ar) (m_seen : ar) (H : Heap) (locs : List Loc), Rel k tx tn rn re rh ra rl rf dl lt hp gs md ct xp wn wz tm la ps rv ik iv sf sg sw sz m_nodes m_every m_halves m_age m_life m_first m_now m_undoMany m_undoAt m_undos m_isKept m_kept m_letterMany m_text m_seenMany m_seenFrom m_seenTo m_seen → wd D (fun q : Nat => s.heap.size ≤ q) s.heap H locs ([((cA 0), .inr (11, [.ref (cA 1), .ref (cA 3), .ref (cA 7), .ref (cA 8), .ref (cA 17), .ref (cA 18), .ref (cA 20), .ref (cA 23), .ref (cA 25), .ref (cA 27)])), ((cA 1), .inr (9, [.ref (cA 2), .int tn])), ((cA 2), .inl (cI, 120, .inl tx)), ((cA 3), .inr (6, [.ref (cA 1), .ref (cA 4), .ref (cA 5), .int it, .int kd, .int nu, .int pl, .int nx])), ((cA 4), .inr (7, [.int qrn, .int qre, .int qrh, .int qra, .int qrl, .int qrf])), ((cA 5), .inr (3, [.ref (cA 6), .int qlt])), ((cA 6), .inl (cI, 36, .inl qdl)), ((cA 7), .inr (7, [.int rn, .int re, .int rh, .int ra, .int rl, .int rf])), ((cA 8), .inr (1, [.ref (cA 9), .ref (cA 11), .ref (cA 12), .ref (cA 13), .ref (cA 14), .ref (cA 15), .ref (cA 16), .int wz, .int tm])), ((cA 9), .inr (3, [.ref (cA 10), .int lt])), ((cA 10), .inl (cI, 36, .inl dl)), ((cA 11), .inl (cI, 36, .inl hp)), ((cA 12), .inl (cI, 216, .inl gs)), ((cA 13), .inl (cI, 216, .inl md)), ((cA 14), .inl (cI, 6, .inl ct)), ((cA 15), .inl (cI, 6, .inl xp)), ((cA 16), .inl (cI, 101, .inl wn)), ((cA 17), .inr (5, [.ref (cA 7), .ref (cA 8)])), ((cA 18), .inr (4, [.ref (cA 19), .int la, .int ps])), ((cA 19), .inl (cK, 8, .inr (.inr (.inr (.inr (fun j => some (rga j 0))))))), ((cA 20), .inr (0, [.ref (cA 21), .ref (cA 22)])), ((cA 21), .inl (cK, 2, .inr (.inr (.inr (.inr (fun j => some (iga j 0))))))), ((cA 22), .inl (cZ, 2, .inl ik)), ((cA 23), .inr (10, [.ref (cA 17), .ref (cA 24), .int pz, .int pd])), ((cA 24), .inl (cI, 6, .inl pn)), ((cA 25), .inr (2, [.ref (cA 26), .int sn])), ((cA 26), .inl (cI, 36, .inl sm)), ((cA 27), .inr (8, [.ref (cA 28), .ref (cA 29), .ref (cA 30), .int sz])), ((cA 28), .inl (cI, 6, .inl sf)), ((cA 29), .inl (cI, 6, .inl sg)), ((cA 30), .inl (cI, 6, .inl sw)), ((rA 0), .inr (12, [.int m_nodes, .int m_every, .int m_halves, .int m_age, .int m_life, .int m_first, .ref (rA 1), .int m_undoMany, .int m_undoAt, .ref (rA 2), .ref (rA 3), .ref (rA 4), .int m_letterMany, .ref (rA 5), .int m_readAt, .int m_tokenAt, .int m_token, .int m_newNodes, .int m_newEvery, .int m_newHalves, .int m_newAge, .int m_newLife, .int m_newFirst, .int m_newLinks, .ref (rA 6), .int m_pathMany, .int m_pathDelay, .ref (rA 7), .ref (rA 8), .int m_seenMany, .ref (rA 9), .ref (rA 10), .ref (rA 11)])), ((rA 1), .inl (cI, 622, .inl m_now)), ((rA 2), .inl (cI, 4976, .inl m_undos)), ((rA 3), .inl (cZ, 2, .inl m_isKept)), ((rA 4), .inl (cI, 1244, .inl m_kept)), ((rA 5), .inl (cI, 120, .inl m_text)), ((rA 6), .inl (cI, 36, .inl m_newDelay)), ((rA 7), .inl (cI, 6, .inl m_path)), ((rA 8), .inl (cI, 36, .inl m_far)), ((rA 9), .inl (cI, 6, .inl m_seenFrom)), ((rA 10), .inl (cI, 6, .inl m_seenTo)), ((rA 11), .inl (cI, 6, .inl m_seen))] ++ ((rc cI rga rv 8) ++ (rc cI iga iv 2))) → ∀ (ls : Array Slot), lv_has ls 4 [(0, .ref b), (1, .ref (cA 0)), (2, .ref (rA 0)), (3, .int (nI (4 * k)))] → W p l e room_1 s m #[Value.ref b] below meth c H locs 133 14280 (lw_Z below #[Value.ref b] s) (F0 m 18 ls []) := by
  obtain ⟨hx, hb, hr, hml, hown0, hts, hX, hbl, hlocks, hgv⟩ := C0
  have hown : s.vm.findClass RL = some m.cls := hown0
  have hbA : ¬ (fun q : Nat => s.heap.size ≤ q) b := Nat.not_le.mpr hbl
  intro n
  induction n with
  | zero =>
    intro k h1 h2
    exact absurd h2 (by omega)
  | succ n ih =>
    intro k hk1 hkn tx tn qrn qre qrh qra qrl qrf qdl qlt it kd nu pl nx rn re rh ra rl rf dl lt hp gs md ct xp wn wz tm rv la ps iv ik pn pz pd sm sn sf sg sw sz m_nodes m_every m_halves m_age m_life m_first m_now m_undoMany m_undoAt m_undos m_isKept m_kept m_letterMany m_text m_readAt m_tokenAt m_token m_newNodes m_newEvery m_newHalves m_newAge m_newLife m_newFirst m_newLinks m_newDelay m_pathMany m_pathDelay m_path m_far m_seenMany m_seenFrom m_seenTo m_seen H locs hR w ls hl
    refine lv_iload_n hx hb dL_law_18 rfl (lv_at hl 3 rfl) ?_
    refine lv_aload_n hx hb dL_law_19 rfl (lv_at hl 0 rfl) ?_
    refine va_slen hx hb hX hbl hbA w.2.2 dL_law_20 ?_
    refine lv_iconst (v := 4) hx hb dL_law_21 (by decide) ?_
    refine lv_isub hx hb dL_law_22 ?_
    refine lv_icmp_gt (tgt := 900) hx hb dL_law_23 (by decide) (fun cgt => ?_) (fun cgt => ?_)
    · refine lv_iconst (v := 1) hx hb dL_law_900 (by decide) ?_
      refine va_forget (fun q hq => w.2.2.2.2 q hq) ?_
      refine W.widen (k := 600000) (n := 7302250) (Nat.le_of_ble_eq_true rfl) (Nat.le_of_ble_eq_true rfl) ?_
      exact lw_ret hx hb hr hlocks dL_law_901
    · have hlt : 4 * k + 4 ≤ L := lt_of_gt (by omega) (by omega) cgt
      have hk5 : k < 512 := by omega
      have h0 : vp_in (nI (4 * k)) L := vp_in_nI (by omega) (by omega)
      have h1 : vp_in (nI (4 * k) + 1) L := by
        rw [show nI (4 * k) + 1 = nI (4 * k + 1) from nI_add (4 * k) 1]
        exact vp_in_nI (by omega) (by omega)
      have h2 : vp_in (nI (4 * k) + 2) L := by
        rw [show nI (4 * k) + 2 = nI (4 * k + 2) from nI_add (4 * k) 2]
        exact vp_in_nI (by omega) (by omega)
      have h3 : vp_in (nI (4 * k) + 3) L := by
        rw [show nI (4 * k) + 3 = nI (4 * k + 3) from nI_add (4 * k) 3]
        exact vp_in_nI (by omega) (by omega)
      have cont : ∀ (tx : ar) (tn : Int32) (qrn : Int32) (qre : Int32) (qrh : Int32) (qra : Int32) (qrl : Int32) (qrf : Int32) (qdl : ar) (qlt : Int32) (it : Int32) (kd : Int32) (nu : Int32) (pl : Int32) (nx : Int32) (rn : Int32) (re : Int32) (rh : Int32) (ra : Int32) (rl : Int32) (rf : Int32) (dl : ar) (lt : Int32) (hp : ar) (gs : ar) (md : ar) (ct : ar) (xp : ar) (wn : ar) (wz : Int32) (tm : Int32) (rv : Nat → Nat → ar) (la : Int32) (ps : Int32) (iv : Nat → Nat → ar) (ik : ar) (pn : ar) (pz : Int32) (pd : Int32) (sm : ar) (sn : Int32) (sf : ar) (sg : ar) (sw : ar) (sz : Int32) (m_nodes : Int32) (m_every : Int32) (m_halves : Int32) (m_age : Int32) (m_life : Int32) (m_first : Int32) (m_now : ar) (m_undoMany : Int32) (m_undoAt : Int32) (m_undos : ar) (m_isKept : ar) (m_kept : ar) (m_letterMany : Int32) (m_text : ar) (m_readAt : Int32) (m_tokenAt : Int32) (m_token : Int32) (m_newNodes : Int32) (m_newEvery : Int32) (m_newHalves : Int32) (m_newAge : Int32) (m_newLife : Int32) (m_newFirst : Int32) (m_newLinks : Int32) (m_newDelay : ar) (m_pathMany : Int32) (m_pathDelay : Int32) (m_path : ar) (m_far : ar) (m_seenMany : Int32) (m_seenFrom : ar) (m_seenTo : ar) (m_seen : ar) (H : Heap) (locs : List Loc), Rel (k + 1) tx tn rn re rh ra rl rf dl lt hp gs md ct xp wn wz tm la ps rv ik iv sf sg sw sz m_nodes m_every m_halves m_age m_life m_first m_now m_undoMany m_undoAt m_undos m_isKept m_kept m_letterMany m_text m_seenMany m_seenFrom m_seenTo m_seen → wd D (fun q : Nat => s.heap.size ≤ q) s.heap H locs ([((cA 0), .inr (11, [.ref (cA 1), .ref (cA 3), .ref (cA 7), .ref (cA 8), .ref (cA 17), .ref (cA 18), .ref (cA 20), .ref (cA 23), .ref (cA 25), .ref (cA 27)])), ((cA 1), .inr (9, [.ref (cA 2), .int tn])), ((cA 2), .inl (cI, 120, .inl tx)), ((cA 3), .inr (6, [.ref (cA 1), .ref (cA 4), .ref (cA 5), .int it, .int kd, .int nu, .int pl, .int nx])), ((cA 4), .inr (7, [.int qrn, .int qre, .int qrh, .int qra, .int qrl, .int qrf])), ((cA 5), .inr (3, [.ref (cA 6), .int qlt])), ((cA 6), .inl (cI, 36, .inl qdl)), ((cA 7), .inr (7, [.int rn, .int re, .int rh, .int ra, .int rl, .int rf])), ((cA 8), .inr (1, [.ref (cA 9), .ref (cA 11), .ref (cA 12), .ref (cA 13), .ref (cA 14), .ref (cA 15), .ref (cA 16), .int wz, .int tm])), ((cA 9), .inr (3, [.ref (cA 10), .int lt])), ((cA 10), .inl (cI, 36, .inl dl)), ((cA 11), .inl (cI, 36, .inl hp)), ((cA 12), .inl (cI, 216, .inl gs)), ((cA 13), .inl (cI, 216, .inl md)), ((cA 14), .inl (cI, 6, .inl ct)), ((cA 15), .inl (cI, 6, .inl xp)), ((cA 16), .inl (cI, 101, .inl wn)), ((cA 17), .inr (5, [.ref (cA 7), .ref (cA 8)])), ((cA 18), .inr (4, [.ref (cA 19), .int la, .int ps])), ((cA 19), .inl (cK, 8, .inr (.inr (.inr (.inr (fun j => some (rga j 0))))))), ((cA 20), .inr (0, [.ref (cA 21), .ref (cA 22)])), ((cA 21), .inl (cK, 2, .inr (.inr (.inr (.inr (fun j => some (iga j 0))))))), ((cA 22), .inl (cZ, 2, .inl ik)), ((cA 23), .inr (10, [.ref (cA 17), .ref (cA 24), .int pz, .int pd])), ((cA 24), .inl (cI, 6, .inl pn)), ((cA 25), .inr (2, [.ref (cA 26), .int sn])), ((cA 26), .inl (cI, 36, .inl sm)), ((cA 27), .inr (8, [.ref (cA 28), .ref (cA 29), .ref (cA 30), .int sz])), ((cA 28), .inl (cI, 6, .inl sf)), ((cA 29), .inl (cI, 6, .inl sg)), ((cA 30), .inl (cI, 6, .inl sw)), ((rA 0), .inr (12, [.int m_nodes, .int m_every, .int m_halves, .int m_age, .int m_life, .int m_first, .ref (rA 1), .int m_undoMany, .int m_undoAt, .ref (rA 2), .ref (rA 3), .ref (rA 4), .int m_letterMany, .ref (rA 5), .int m_readAt, .int m_tokenAt, .int m_token, .int m_newNodes, .int m_newEvery, .int m_newHalves, .int m_newAge, .int m_newLife, .int m_newFirst, .int m_newLinks, .ref (rA 6), .int m_pathMany, .int m_pathDelay, .ref (rA 7), .ref (rA 8), .int m_seenMany, .ref (rA 9), .ref (rA 10), .ref (rA 11)])), ((rA 1), .inl (cI, 622, .inl m_now)), ((rA 2), .inl (cI, 4976, .inl m_undos)), ((rA 3), .inl (cZ, 2, .inl m_isKept)), ((rA 4), .inl (cI, 1244, .inl m_kept)), ((rA 5), .inl (cI, 120, .inl m_text)), ((rA 6), .inl (cI, 36, .inl m_newDelay)), ((rA 7), .inl (cI, 6, .inl m_path)), ((rA 8), .inl (cI, 36, .inl m_far)), ((rA 9), .inl (cI, 6, .inl m_seenFrom)), ((rA 10), .inl (cI, 6, .inl m_seenTo)), ((rA 11), .inl (cI, 6, .inl m_seen))] ++ ((rc cI rga rv 8) ++ (rc cI iga iv 2))) → W p l e room_1 s m #[Value.ref b] below meth c H locs 133 14280 (lw_Z below #[Value.ref b] s) (F0 m 894 ls []) := by
        intro tx tn qrn qre qrh qra qrl qrf qdl qlt it kd nu pl nx rn re rh ra rl rf dl lt hp gs md ct xp wn wz tm rv la ps iv ik pn pz pd sm sn sf sg sw sz m_nodes m_every m_halves m_age m_life m_first m_now m_undoMany m_undoAt m_undos m_isKept m_kept m_letterMany m_text m_readAt m_tokenAt m_token m_newNodes m_newEvery m_newHalves m_newAge m_newLife m_newFirst m_newLinks m_newDelay m_pathMany m_pathDelay m_path m_far m_seenMany m_seenFrom m_seenTo m_seen H locs hR w
        refine lv_iinc (v := nI (4 * (k + 1))) (lv' := [(3, .int (nI (4 * (k + 1)))), (0, .ref b), (1, .ref (cA 0)), (2, .ref (rA 0))]) hx hb dL_law_894 hl (k := 3) rfl (show nI (4 * k) + 4 = nI (4 * (k + 1)) from nI_add (4 * k) 4) (by decide) rfl (fun ls hl => ?_)
        refine lv_goto (tgt := 18) hx hb dL_law_897 (by decide) ?_
        exact ih (k + 1) (by omega) (by omega) _ _ _ _ _ _ _ _ _ _ _ _ _ _ _ _ _ _ _ _ _ _ _ _ _ _ _ _ _ _ _ _ _ _ _ _ _ _ _ _ _ _ _ _ _ _ _ _ _ _ _ _ _ _ _ _ _ _ _ _ _ _ _ _ _ _ _ _ _ _ _ _ _ _ _ _ _ _ _ _ hR w _ (lv_sub hl [1, 2, 3, 0] rfl)
      refine lv_aload_n hx hb dL_law_26 rfl (lv_at hl 0 rfl) ?_
      refine lv_iload_n hx hb dL_law_27 rfl (lv_at hl 3 rfl) ?_
      refine va_sld hx hb hX hbl hbA w.2.2 h0 dL_law_28 ?_
      refine lv_bipush (v := 31) hx hb dL_law_29 (by decide) ?_
      refine lv_iand hx hb dL_law_31 ?_
      refine lv_topi (fun x ex => ?_)
      by_cases c0 : x = 0
      · refine lv_tableIn (off := 128) (tgt := 160) hx hb dL_law_32 (by rw [c0]; decide) (by rw [c0]; decide) (by rw [c0]; decide) (by decide) ?_
        exact law_type hx hb hml hown hk hX hbl hk5 h1 h2 h3 hl cont hR w
      have n0 := ne_ti (z := 0) c0 (by decide)
      by_cases c1 : x = 1
      · refine lv_tableIn (off := 151) (tgt := 183) hx hb dL_law_32 (by rw [c1]; decide) (by rw [c1]; decide) (by rw [c1]; decide) (by decide) ?_
        exact law_clear hx hb hml hown hk hX hbl hk5 h1 h2 h3 hl cont hR w
      have n1 := ne_ti (z := 1) c1 (by decide)
      by_cases c2 : x = 2
      · refine lv_tableIn (off := 164) (tgt := 196) hx hb dL_law_32 (by rw [c2]; decide) (by rw [c2]; decide) (by rw [c2]; decide) (by decide) ?_
        exact law_net hx hb hml hown hk hX hbl hk5 h1 h2 h3 hl cont hR w
      have n2 := ne_ti (z := 2) c2 (by decide)
      by_cases c3 : x = 3
      · refine lv_tableIn (off := 177) (tgt := 209) hx hb dL_law_32 (by rw [c3]; decide) (by rw [c3]; decide) (by rw [c3]; decide) (by decide) ?_
        exact law_link hx hb hml hown hk hX hbl hk5 h1 h2 h3 hl cont hR w
      have n3 := ne_ti (z := 3) c3 (by decide)
      by_cases c4 : x = 4
      · refine lv_tableIn (off := 210) (tgt := 242) hx hb dL_law_32 (by rw [c4]; decide) (by rw [c4]; decide) (by rw [c4]; decide) (by decide) ?_
        exact law_sends hx hb hml hown hk hX hbl hk5 h1 h2 h3 hl cont hR w
      have n4 := ne_ti (z := 4) c4 (by decide)
      by_cases c5 : x = 5
      · refine lv_tableIn (off := 243) (tgt := 275) hx hb dL_law_32 (by rw [c5]; decide) (by rw [c5]; decide) (by rw [c5]; decide) (by decide) ?_
        exact law_rounds hx hb hml hown hk hX hbl hk5 h1 h2 h3 hl cont hR w
      have n5 := ne_ti (z := 5) c5 (by decide)
      by_cases c6 : x = 6
      · refine lv_tableIn (off := 266) (tgt := 298) hx hb dL_law_32 (by rw [c6]; decide) (by rw [c6]; decide) (by rw [c6]; decide) (by decide) ?_
        exact law_cuts hx hb hml hown hk hX hbl hk5 h1 h2 h3 hl cont hR w
      have n6 := ne_ti (z := 6) c6 (by decide)
      by_cases c7 : x = 7
      · refine lv_tableIn (off := 289) (tgt := 321) hx hb dL_law_32 (by rw [c7]; decide) (by rw [c7]; decide) (by rw [c7]; decide) (by decide) ?_
        exact law_lays hx hb hml hown hk hX hbl hk5 h1 h2 h3 hl cont hR w
      have n7 := ne_ti (z := 7) c7 (by decide)
      by_cases c8 : x = 8
      · refine lv_tableIn (off := 332) (tgt := 364) hx hb dL_law_32 (by rw [c8]; decide) (by rw [c8]; decide) (by rw [c8]; decide) (by decide) ?_
        exact law_changes hx hb hml hown hk hX hbl hk5 h1 h2 h3 hl cont hR w
      have n8 := ne_ti (z := 8) c8 (by decide)
      by_cases c9 : x = 9
      · refine lv_tableIn (off := 365) (tgt := 397) hx hb dL_law_32 (by rw [c9]; decide) (by rw [c9]; decide) (by rw [c9]; decide) (by decide) ?_
        exact law_undo hx hb hml hown hk hX hbl hk5 h1 h2 h3 hl cont hR w
      have n9 := ne_ti (z := 9) c9 (by decide)
      by_cases c10 : x = 10
      · refine lv_tableIn (off := 378) (tgt := 410) hx hb dL_law_32 (by rw [c10]; decide) (by rw [c10]; decide) (by rw [c10]; decide) (by decide) ?_
        exact law_guess hx hb hml hown hk hX hbl hk5 h1 h2 h3 hl cont hR w
      have n10 := ne_ti (z := 10) c10 (by decide)
      by_cases c11 : x = 11
      · refine lv_tableIn (off := 421) (tgt := 453) hx hb dL_law_32 (by rw [c11]; decide) (by rw [c11]; decide) (by rw [c11]; decide) (by decide) ?_
        exact law_mended hx hb hml hown hk hX hbl hk5 h1 h2 h3 hl cont hR w
      have n11 := ne_ti (z := 11) c11 (by decide)
      by_cases c12 : x = 12
      · refine lv_tableIn (off := 464) (tgt := 496) hx hb dL_law_32 (by rw [c12]; decide) (by rw [c12]; decide) (by rw [c12]; decide) (by decide) ?_
        exact law_best hx hb hml hown hk hX hbl hk5 h1 h2 h3 hl cont hR w
      have n12 := ne_ti (z := 12) c12 (by decide)
      by_cases c13 : x = 13
      · refine lv_tableIn (off := 497) (tgt := 529) hx hb dL_law_32 (by rw [c13]; decide) (by rw [c13]; decide) (by rw [c13]; decide) (by decide) ?_
        exact law_node hx hb hml hown hk hX hbl hk5 h1 h2 h3 hl cont hR w
      have n13 := ne_ti (z := 13) c13 (by decide)
      by_cases c14 : x = 14
      · refine lv_tableIn (off := 530) (tgt := 562) hx hb dL_law_32 (by rw [c14]; decide) (by rw [c14]; decide) (by rw [c14]; decide) (by decide) ?_
        exact law_used hx hb hml hown hk hX hbl hk5 h1 h2 h3 hl cont hR w
      have n14 := ne_ti (z := 14) c14 (by decide)
      by_cases c15 : x = 15
      · refine lv_tableIn (off := 553) (tgt := 585) hx hb dL_law_32 (by rw [c15]; decide) (by rw [c15]; decide) (by rw [c15]; decide) (by decide) ?_
        exact law_way hx hb hml hown hk hX hbl hk5 h1 h2 h3 hl cont hR w
      have n15 := ne_ti (z := 15) c15 (by decide)
      by_cases c16 : x = 16
      · refine lv_tableIn (off := 576) (tgt := 608) hx hb dL_law_32 (by rw [c16]; decide) (by rw [c16]; decide) (by rw [c16]; decide) (by decide) ?_
        exact law_path hx hb hml hown hk hX hbl hk5 h1 h2 h3 hl cont hR w
      have n16 := ne_ti (z := 16) c16 (by decide)
      by_cases c17 : x = 17
      · refine lv_tableIn (off := 619) (tgt := 651) hx hb dL_law_32 (by rw [c17]; decide) (by rw [c17]; decide) (by rw [c17]; decide) (by decide) ?_
        exact law_astray hx hb hml hown hk hX hbl hk5 h1 h2 h3 hl cont hR w
      have n17 := ne_ti (z := 17) c17 (by decide)
      by_cases c18 : x = 18
      · refine lv_tableIn (off := 642) (tgt := 674) hx hb dL_law_32 (by rw [c18]; decide) (by rw [c18]; decide) (by rw [c18]; decide) (by decide) ?_
        exact law_least hx hb hml hown hk hX hbl hk5 h1 h2 h3 hl cont hR w
      have n18 := ne_ti (z := 18) c18 (by decide)
      by_cases c19 : x = 19
      · refine lv_tableIn (off := 675) (tgt := 707) hx hb dL_law_32 (by rw [c19]; decide) (by rw [c19]; decide) (by rw [c19]; decide) (by decide) ?_
        exact law_right hx hb hml hown hk hX hbl hk5 h1 h2 h3 hl cont hR w
      have n19 := ne_ti (z := 19) c19 (by decide)
      by_cases c20 : x = 20
      · refine lv_tableIn (off := 688) (tgt := 720) hx hb dL_law_32 (by rw [c20]; decide) (by rw [c20]; decide) (by rw [c20]; decide) (by decide) ?_
        exact law_hurt hx hb hml hown hk hX hbl hk5 h1 h2 h3 hl cont hR w
      have n20 := ne_ti (z := 20) c20 (by decide)
      by_cases c21 : x = 21
      · refine lv_tableIn (off := 711) (tgt := 743) hx hb dL_law_32 (by rw [c21]; decide) (by rw [c21]; decide) (by rw [c21]; decide) (by decide) ?_
        exact law_worst hx hb hml hown hk hX hbl hk5 h1 h2 h3 hl cont hR w
      have n21 := ne_ti (z := 21) c21 (by decide)
      by_cases c22 : x = 22
      · refine lv_tableIn (off := 724) (tgt := 756) hx hb dL_law_32 (by rw [c22]; decide) (by rw [c22]; decide) (by rw [c22]; decide) (by decide) ?_
        exact law_sees hx hb hml hown hk hX hbl hk5 h1 h2 h3 hl cont hR w
      have n22 := ne_ti (z := 22) c22 (by decide)
      by_cases c23 : x = 23
      · refine lv_tableIn (off := 767) (tgt := 799) hx hb dL_law_32 (by rw [c23]; decide) (by rw [c23]; decide) (by rw [c23]; decide) (by decide) ?_
        exact law_forget hx hb hml hown hk hX hbl hk5 h1 h2 h3 hl cont hR w
      have n23 := ne_ti (z := 23) c23 (by decide)
      by_cases c24 : x = 24
      · refine lv_tableIn (off := 780) (tgt := 812) hx hb dL_law_32 (by rw [c24]; decide) (by rw [c24]; decide) (by rw [c24]; decide) (by decide) ?_
        exact law_unseen hx hb hml hown hk hX hbl hk5 h1 h2 h3 hl cont hR w
      have n24 := ne_ti (z := 24) c24 (by decide)
      by_cases c25 : x = 25
      · refine lv_tableIn (off := 793) (tgt := 825) hx hb dL_law_32 (by rw [c25]; decide) (by rw [c25]; decide) (by rw [c25]; decide) (by decide) ?_
        exact law_keep hx hb hml hown hk hX hbl hk5 h1 h2 h3 hl cont hR w
      have n25 := ne_ti (z := 25) c25 (by decide)
      by_cases c26 : x = 26
      · refine lv_tableIn (off := 816) (tgt := 848) hx hb dL_law_32 (by rw [c26]; decide) (by rw [c26]; decide) (by rw [c26]; decide) (by decide) ?_
        exact law_back hx hb hml hown hk hX hbl hk5 h1 h2 h3 hl cont hR w
      have n26 := ne_ti (z := 26) c26 (by decide)
      by_cases c27 : x = 27
      · refine lv_tableIn (off := 839) (tgt := 871) hx hb dL_law_32 (by rw [c27]; decide) (by rw [c27]; decide) (by rw [c27]; decide) (by decide) ?_
        exact law_count hx hb hml hown hk hX hbl hk5 h1 h2 h3 hl cont hR w
      have n27 := ne_ti (z := 27) c27 (by decide)
      refine lv_tableOut (tgt := 894) hx hb dL_law_32 (by omega) (by decide) ?_
      exact cont _ _ _ _ _ _ _ _ _ _ _ _ _ _ _ _ _ _ _ _ _ _ _ _ _ _ _ _ _ _ _ _ _ _ _ _ _ _ _ _ _ _ _ _ _ _ _ _ _ _ _ _ _ _ _ _ _ _ _ _ _ _ _ _ _ _ _ _ _ _ _ _ _ _ _ _ _ _ _ _ hR.up w
