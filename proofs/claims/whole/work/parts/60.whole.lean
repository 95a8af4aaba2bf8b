set_option maxRecDepth 100000 in
set_option maxHeartbeats 4000000 in
theorem whole_start {p : Program} {e : Env} {s : State} {m : MethodId} {below : List Frame} {meth : Method} {c : Code} (l : Launch) (hflags : l.flags = flags0) {b L : Nat} {xs : Nat → Int32} (hL : L ≤ 2048) (C0 : lw_At p s m meth c b L xs) : W p l e room_1 s m #[Value.ref b] below meth c s.heap [] 0 0 (lw_Z below #[Value.ref b] s) (entryFrame m ([Value.ref b] : List Value).toArray 4) := by
  obtain ⟨hx, hb, hr, hml, hown0, hts, hX, hbl, hlocks, hgv⟩ := id C0
  have hown : s.vm.findClass RL = some m.cls := hown0
  have hA : ∀ q : Nat, s.heap.size ≤ q → (fun q : Nat => s.heap.size ≤ q) q := fun _ h => h
  obtain ⟨D, cI, cZ, cK, hk⟩ := kq_0 hts
  have w : wd D (fun q : Nat => s.heap.size ≤ q) s.heap s.heap [] [] := ⟨fun k q h => by simp at h, ⟨fun i j p q h => by simp at h, fun k q h => by simp at h⟩, va_S.rf⟩
  have hl := lv_entry ([.ref b]) (n := 4) (Nat.le_of_ble_eq_true rfl)
  rw [lg_entry_eq]
  generalize (lg_sl ([.ref b]) ++ List.replicate (4 - (lg_sl ([.ref b])).length) Slot.unset).toArray = ls at hl ⊢
  have hl : lv_has ls 4 [(0, .ref b)] := hl
  refine nn_L_7 hx hb hown hk w hA (Nat.le_of_ble_eq_true rfl) (Nat.le_of_ble_eq_true rfl) dL_law_0 (fun q0 H w => ?_)
  refine lv_dup hx hb dL_law_3 rfl ?_
  refine cIV (rest := [.ref q0]) (wr := []) hx hb hml hown hk w hA (k_X11_init l D cI cZ cK q0) (me_X11_init hk.2.1) rfl (mi_X11_init hk.2.1) (ml_L_9 hk.2.1) (pmn 1 [0] rfl rfl (by decide)) hl.1 rfl rfl (Nat.le_of_ble_eq_true rfl) ⟨rfl, rfl, Nat.le_of_ble_eq_true rfl, Nat.le_of_ble_eq_true rfl, Nat.le_of_ble_eq_true rfl, Nat.le_of_ble_eq_true rfl⟩ dL_law_4 (fun g4 H locs w => ?_)
  rw [List.append_nil] at w
  have w : wd D (fun q : Nat => s.heap.size ≤ q) s.heap H locs ([((g4.1 0), .inr (8, [.ref (g4.1 1), .ref (g4.1 2), .ref (g4.1 3), .int 0])), ((g4.1 1), .inl (cI, 6, .inl zr)), ((g4.1 2), .inl (cI, 6, .inl zr)), ((g4.1 3), .inl (cI, 6, .inl zr)), ((g4.1 4), .inr (2, [.ref (g4.1 5), .int 0])), ((g4.1 5), .inl (cI, 36, .inl zr)), ((g4.1 6), .inr (10, [.ref (g4.1 13), .ref (g4.1 7), .int 0, .int 0])), ((g4.1 7), .inl (cI, 6, .inl zr)), ((g4.1 8), .inr (0, [.ref (g4.1 9), .ref (g4.1 10)])), ((g4.1 9), .inl (cK, 2, .inr (.inr (.inr (.inr (fun j => some (g4.2.2 j 0))))))), ((g4.1 10), .inl (cZ, 2, .inl zr)), ((g4.1 11), .inr (4, [.ref (g4.1 12), .int 0, .int 0])), ((g4.1 12), .inl (cK, 8, .inr (.inr (.inr (.inr (fun j => some (g4.2.1 j 0))))))), ((g4.1 13), .inr (5, [.ref (g4.1 23), .ref (g4.1 14)])), ((g4.1 14), .inr (1, [.ref (g4.1 15), .ref (g4.1 17), .ref (g4.1 18), .ref (g4.1 19), .ref (g4.1 20), .ref (g4.1 21), .ref (g4.1 22), .int 0, .int 0])), ((g4.1 15), .inr (3, [.ref (g4.1 16), .int 0])), ((g4.1 16), .inl (cI, 36, .inl zr)), ((g4.1 17), .inl (cI, 36, .inl zr)), ((g4.1 18), .inl (cI, 216, .inl zr)), ((g4.1 19), .inl (cI, 216, .inl zr)), ((g4.1 20), .inl (cI, 6, .inl zr)), ((g4.1 21), .inl (cI, 6, .inl zr)), ((g4.1 22), .inl (cI, 101, .inl zr)), ((g4.1 23), .inr (7, [.int 2, .int 0, .int 0, .int 99, .int 60, .int 0])), ((g4.1 24), .inr (3, [.ref (g4.1 25), .int 0])), ((g4.1 25), .inl (cI, 36, .inl zr)), ((g4.1 26), .inr (7, [.int 2, .int 0, .int 0, .int 99, .int 60, .int 0])), ((g4.1 27), .inr (6, [.ref (g4.1 28), .ref (g4.1 26), .ref (g4.1 24), .int 0, .int 0, .int 0, .int 0, .int 0])), ((g4.1 28), .inr (9, [.ref (g4.1 29), .int 0])), ((g4.1 29), .inl (cI, 120, .inl zr)), (q0, .inr (11, [.ref (g4.1 28), .ref (g4.1 27), .ref (g4.1 23), .ref (g4.1 14), .ref (g4.1 13), .ref (g4.1 11), .ref (g4.1 8), .ref (g4.1 6), .ref (g4.1 4), .ref (g4.1 0)]))] ++ (rc cI g4.2.1 kvs0 8 ++ rc cI g4.2.2 kvs0 2)) := w
  refine lv_astore_n (lv' := [(1, .ref q0), (0, .ref b)]) hx hb dL_law_7 rfl hl (by decide) rfl (fun ls hl => ?_)
  refine nn_L_10 hx hb hown hk w hA (Nat.le_of_ble_eq_true rfl) (Nat.le_of_ble_eq_true rfl) dL_law_8 (fun q8 H w => ?_)
  refine lv_dup hx hb dL_law_11 rfl ?_
  refine cIV (rest := [.ref q8]) (wr := [((g4.1 0), .inr (8, [.ref (g4.1 1), .ref (g4.1 2), .ref (g4.1 3), .int 0])), ((g4.1 1), .inl (cI, 6, .inl zr)), ((g4.1 2), .inl (cI, 6, .inl zr)), ((g4.1 3), .inl (cI, 6, .inl zr)), ((g4.1 4), .inr (2, [.ref (g4.1 5), .int 0])), ((g4.1 5), .inl (cI, 36, .inl zr)), ((g4.1 6), .inr (10, [.ref (g4.1 13), .ref (g4.1 7), .int 0, .int 0])), ((g4.1 7), .inl (cI, 6, .inl zr)), ((g4.1 8), .inr (0, [.ref (g4.1 9), .ref (g4.1 10)])), ((g4.1 9), .inl (cK, 2, .inr (.inr (.inr (.inr (fun j => some (g4.2.2 j 0))))))), ((g4.1 10), .inl (cZ, 2, .inl zr)), ((g4.1 11), .inr (4, [.ref (g4.1 12), .int 0, .int 0])), ((g4.1 12), .inl (cK, 8, .inr (.inr (.inr (.inr (fun j => some (g4.2.1 j 0))))))), ((g4.1 13), .inr (5, [.ref (g4.1 23), .ref (g4.1 14)])), ((g4.1 14), .inr (1, [.ref (g4.1 15), .ref (g4.1 17), .ref (g4.1 18), .ref (g4.1 19), .ref (g4.1 20), .ref (g4.1 21), .ref (g4.1 22), .int 0, .int 0])), ((g4.1 15), .inr (3, [.ref (g4.1 16), .int 0])), ((g4.1 16), .inl (cI, 36, .inl zr)), ((g4.1 17), .inl (cI, 36, .inl zr)), ((g4.1 18), .inl (cI, 216, .inl zr)), ((g4.1 19), .inl (cI, 216, .inl zr)), ((g4.1 20), .inl (cI, 6, .inl zr)), ((g4.1 21), .inl (cI, 6, .inl zr)), ((g4.1 22), .inl (cI, 101, .inl zr)), ((g4.1 23), .inr (7, [.int 2, .int 0, .int 0, .int 99, .int 60, .int 0])), ((g4.1 24), .inr (3, [.ref (g4.1 25), .int 0])), ((g4.1 25), .inl (cI, 36, .inl zr)), ((g4.1 26), .inr (7, [.int 2, .int 0, .int 0, .int 99, .int 60, .int 0])), ((g4.1 27), .inr (6, [.ref (g4.1 28), .ref (g4.1 26), .ref (g4.1 24), .int 0, .int 0, .int 0, .int 0, .int 0])), ((g4.1 28), .inr (9, [.ref (g4.1 29), .int 0])), ((g4.1 29), .inl (cI, 120, .inl zr)), (q0, .inr (11, [.ref (g4.1 28), .ref (g4.1 27), .ref (g4.1 23), .ref (g4.1 14), .ref (g4.1 13), .ref (g4.1 11), .ref (g4.1 8), .ref (g4.1 6), .ref (g4.1 4), .ref (g4.1 0)]))] ++ (rc cI g4.2.1 kvs0 8 ++ rc cI g4.2.2 kvs0 2)) hx hb hml hown hk w hA (k_X12_init l D cI cZ cK q8) (me_X12_init hk.2.1) rfl (mi_X12_init hk.2.1) (ml_L_12 hk.2.1) List.perm_append_comm hl.1 rfl rfl (Nat.le_of_ble_eq_true rfl) ⟨rfl, rfl, Nat.le_of_ble_eq_true rfl, Nat.le_of_ble_eq_true rfl, Nat.le_of_ble_eq_true rfl, Nat.le_of_ble_eq_true rfl⟩ dL_law_12 (fun g12 H locs w => ?_)
  have w : wd D (fun q : Nat => s.heap.size ≤ q) s.heap H locs ([(q8, .inr (12, [.int 2, .int 0, .int 0, .int 99, .int 60, .int 0, .ref (g12.1 0), .int 0, .int 0, .ref (g12.1 1), .ref (g12.1 2), .ref (g12.1 3), .int 0, .ref (g12.1 4), .int 0, .int 0, .int 0, .int 0, .int 0, .int 0, .int 0, .int 0, .int 0, .int 0, .ref (g12.1 5), .int 0, .int 0, .ref (g12.1 6), .ref (g12.1 7), .int 0, .ref (g12.1 8), .ref (g12.1 9), .ref (g12.1 10)])), ((g12.1 0), .inl (cI, 622, .inl row0)), ((g12.1 1), .inl (cI, 4976, .inl zr)), ((g12.1 2), .inl (cZ, 2, .inl zr)), ((g12.1 3), .inl (cI, 1244, .inl zr)), ((g12.1 4), .inl (cI, 120, .inl zr)), ((g12.1 5), .inl (cI, 36, .inl zr)), ((g12.1 6), .inl (cI, 6, .inl zr)), ((g12.1 7), .inl (cI, 36, .inl zr)), ((g12.1 8), .inl (cI, 6, .inl zr)), ((g12.1 9), .inl (cI, 6, .inl zr)), ((g12.1 10), .inl (cI, 6, .inl zr)), ((g4.1 0), .inr (8, [.ref (g4.1 1), .ref (g4.1 2), .ref (g4.1 3), .int 0])), ((g4.1 1), .inl (cI, 6, .inl zr)), ((g4.1 2), .inl (cI, 6, .inl zr)), ((g4.1 3), .inl (cI, 6, .inl zr)), ((g4.1 4), .inr (2, [.ref (g4.1 5), .int 0])), ((g4.1 5), .inl (cI, 36, .inl zr)), ((g4.1 6), .inr (10, [.ref (g4.1 13), .ref (g4.1 7), .int 0, .int 0])), ((g4.1 7), .inl (cI, 6, .inl zr)), ((g4.1 8), .inr (0, [.ref (g4.1 9), .ref (g4.1 10)])), ((g4.1 9), .inl (cK, 2, .inr (.inr (.inr (.inr (fun j => some (g4.2.2 j 0))))))), ((g4.1 10), .inl (cZ, 2, .inl zr)), ((g4.1 11), .inr (4, [.ref (g4.1 12), .int 0, .int 0])), ((g4.1 12), .inl (cK, 8, .inr (.inr (.inr (.inr (fun j => some (g4.2.1 j 0))))))), ((g4.1 13), .inr (5, [.ref (g4.1 23), .ref (g4.1 14)])), ((g4.1 14), .inr (1, [.ref (g4.1 15), .ref (g4.1 17), .ref (g4.1 18), .ref (g4.1 19), .ref (g4.1 20), .ref (g4.1 21), .ref (g4.1 22), .int 0, .int 0])), ((g4.1 15), .inr (3, [.ref (g4.1 16), .int 0])), ((g4.1 16), .inl (cI, 36, .inl zr)), ((g4.1 17), .inl (cI, 36, .inl zr)), ((g4.1 18), .inl (cI, 216, .inl zr)), ((g4.1 19), .inl (cI, 216, .inl zr)), ((g4.1 20), .inl (cI, 6, .inl zr)), ((g4.1 21), .inl (cI, 6, .inl zr)), ((g4.1 22), .inl (cI, 101, .inl zr)), ((g4.1 23), .inr (7, [.int 2, .int 0, .int 0, .int 99, .int 60, .int 0])), ((g4.1 24), .inr (3, [.ref (g4.1 25), .int 0])), ((g4.1 25), .inl (cI, 36, .inl zr)), ((g4.1 26), .inr (7, [.int 2, .int 0, .int 0, .int 99, .int 60, .int 0])), ((g4.1 27), .inr (6, [.ref (g4.1 28), .ref (g4.1 26), .ref (g4.1 24), .int 0, .int 0, .int 0, .int 0, .int 0])), ((g4.1 28), .inr (9, [.ref (g4.1 29), .int 0])), ((g4.1 29), .inl (cI, 120, .inl zr)), (q0, .inr (11, [.ref (g4.1 28), .ref (g4.1 27), .ref (g4.1 23), .ref (g4.1 14), .ref (g4.1 13), .ref (g4.1 11), .ref (g4.1 8), .ref (g4.1 6), .ref (g4.1 4), .ref (g4.1 0)]))] ++ (rc cI g4.2.1 kvs0 8 ++ rc cI g4.2.2 kvs0 2)) := w
  refine lv_astore_n (lv' := [(2, .ref q8), (1, .ref q0), (0, .ref b)]) hx hb dL_law_15 rfl hl (by decide) rfl (fun ls hl => ?_)
  refine lv_iconst (v := 0) hx hb dL_law_16 (by decide) ?_
  refine lv_istore_n (lv' := [(3, .int 0), (2, .ref q8), (1, .ref q0), (0, .ref b)]) hx hb dL_law_17 rfl hl (by decide) rfl (fun ls hl => ?_)
  refine W.widen (k := 133) (n := 14280) (Nat.le_of_ble_eq_true rfl) (Nat.le_of_ble_eq_true rfl) ?_
  exact law_loop (cA := gl [q0, (g4.1 28), (g4.1 29), (g4.1 27), (g4.1 26), (g4.1 24), (g4.1 25), (g4.1 23), (g4.1 14), (g4.1 15), (g4.1 16), (g4.1 17), (g4.1 18), (g4.1 19), (g4.1 20), (g4.1 21), (g4.1 22), (g4.1 13), (g4.1 11), (g4.1 12), (g4.1 8), (g4.1 9), (g4.1 10), (g4.1 6), (g4.1 7), (g4.1 4), (g4.1 5), (g4.1 0), (g4.1 1), (g4.1 2), (g4.1 3)]) (rA := gl [q8, (g12.1 0), (g12.1 1), (g12.1 2), (g12.1 3), (g12.1 4), (g12.1 5), (g12.1 6), (g12.1 7), (g12.1 8), (g12.1 9), (g12.1 10)]) (rga := g4.2.1) (iga := g4.2.2) hL hk C0 513 0 (by omega) (by omega) zr 0 2 0 0 99 60 0 zr 0 0 0 0 0 0 2 0 0 99 60 0 zr 0 zr zr zr zr zr zr 0 0 kvs0 0 0 kvs0 zr zr 0 0 zr 0 zr zr zr 0 2 0 0 99 60 0 row0 0 0 zr zr zr 0 zr 0 0 0 0 0 0 0 0 0 0 zr 0 0 zr zr 0 zr zr zr _ _ Rel_0 (w.perm (List.Perm.append_right _ (pmn 43 [42, 40, 41, 39, 38, 36, 37, 35, 26, 27, 28, 29, 30, 31, 32, 33, 34, 25, 23, 24, 20, 21, 22, 18, 19, 16, 17, 12, 13, 14, 15, 0, 1, 2, 3, 4, 5, 6, 7, 8, 9, 10, 11] rfl rfl (by decide +kernel)))) _ (lv_sub hl [3, 2, 1, 0] rfl)
set_option maxHeartbeats 4000000 in
theorem lw_walk (l : Launch) (hflags : l.flags = flags0) (b : Addr) (xs : List Int32) : MetFree l x (headSpec (Jvm.Cond.code x code maxLocals ret :: tables_1) room_1) (lw_P b xs) (fun _ _ _ _ _ => True) lw_Q := by
  refine MetFree.of_bodyS (code := code) (maxLocals := maxLocals) (ret := ret) (by decide) ?_ ?_
  · intro args s m h hn
    obtain ⟨meth, c, h1, h2, h3, h4, h5, h6, -, -⟩ := Cond.code_spec hn (atoms_spec (ws := Jvm.Cond.code x code maxLocals ret :: tables_1) h _ List.mem_cons_self)
    exact ⟨meth, c, h1, h2, h3, h4, h5, h6⟩
  · intro p e s m args below meth c s₁ B hml0 hP _
    obtain ⟨rfl, hx, hbd, hgv⟩ := hP
    obtain ⟨scr, harrAt, hlist, hof, hsmall⟩ := hx
    obtain ⟨hcb, hkn, -, -⟩ := State.arrayAt?_spec harrAt
    have hown : s.vm.findClass R_law = some m.cls := findClass_of_methodNamed B.named
    have hts0 : ∀ c ∈ (Jvm.Cond.code x code maxLocals ret :: tables_1), c.before #[Value.ref b] s = true := atoms_spec (ws := Jvm.Cond.code x code maxLocals ret :: tables_1) B.pre
    have hts : ∀ w ∈ lw_tbl, w.before #[Value.ref b] s = true := k2_hts_sels lw_privs (fun w hw => hts0 w (List.mem_cons_of_mem _ hw)) lw_privs_ok
    have hml : c.maxLocals = 4 := B.maxLocals_eq (hts0 _ List.mem_cons_self)
    have X₀ : Stand p l e room_1 s m #[Value.ref b] below meth c s₁ [] 0 0 := Stand.of_body B
    have hh0 : s₁.heap = s.heap := by rw [B.state]; rfl
    have hsz : scr.slots.size = xs.length := by rw [← Array.length_toList, hlist, List.length_map]
    have hval : ∀ j : Nat, j < xs.length → scr.slots[j]? = some (.int (xs.getD j 0)) := fun j hj => by
      rw [← Array.getElem?_toList, hlist]
      simp [hj]
    have hbl : b < s.heap.size := (Array.getElem?_eq_some_iff.mp hcb).1
    have hX : va_X b xs.length (fun j => xs.getD j 0) s s.heap := ⟨scr, hcb, hof, hkn, hsz, hval⟩
    have K : W p l e room_1 s m #[Value.ref b] below meth c s₁.heap [] 0 0 (lw_Z below #[Value.ref b] s) (entryFrame m ([Value.ref b] : List Value).toArray 4) := by
      rw [hh0]
      exact whole_start l hflags hbd ⟨B.exec, B.bytes, B.returns, hml, hown, hts, hX, hbl, B.notSynchronized, hgv⟩
    obtain ⟨t, a1, o, b1, b2, b3⟩ := K s₁ rfl X₀
    exact ⟨t, o, a1, b1, b2, b3⟩
theorem lw_pre_spec {args : Array Value} {s : State} (h : (Jvm.Cond.and given_1 narrow_1).before args s = true) (hr : rest_1_c.before args s = true) : ∃ (b : Addr) (xs : List Int32), lw_P b xs args s := by
  have hs := flat_of_before _ h
  have hq := flat_of_before _ hr
  have hc : (Cond.count 1).before args s = true := hs _ (by decide +kernel)
  have harr : (Cond.arrayOf (.arg 0) .int).before args s = true := hs _ (by decide +kernel)
  have hle : (Cond.le (.length (.arg 0)) (.int 2048)).before args s = true := hs _ (by decide +kernel)
  have hlen : (Cond.isInt (.length (.arg 0))).before args s = true := hq _ (by decide +kernel)
  have hall : (Cond.all (.arg 0) (.isInt (.elem (.arg 0) (.index 0)))).before args s = true := hq _ (by decide +kernel)
  obtain ⟨b, xs, hb, hx⟩ := State.ints_of_pre rfl harr hlen hall
  have hsm : xs.length < 2 ^ 31 := hx.choose_spec.2.2.2
  have hev : (Term.length (.arg 0)).eval args s none [] s = some (.int xs.length.toInt32) := hx.length_eval hb
  have hv := Cond.le_ints hev (show (Term.int 2048).eval args s none [] s = some (.int 2048) from rfl)
  have hd : xs.length.toInt32 ≤ 2048 := by
    simpa [Cond.before, Cond.holds, hv] using hle
  have hN : xs.length ≤ 2048 := (Int32.ofNat_le_ofNat hsm (by decide)).mp (show Int32.ofNat xs.length ≤ Int32.ofNat 2048 from hd)
  exact ⟨b, xs, Cond.one_arg hc (show args[0]? = some (.ref b) from hb), hx, hN, h⟩
theorem lw_comes (l : Launch) (hflags : l.flags = flags0) : Comes l x (Jvm.Cond.code x code maxLocals ret :: tables_1) room_1 (fun tb e args s => Calls_1 tb e args s ∧ rest_1 tb e args s ∧ Pre_1 tb e args s)
    (fun _ _ args s o t => lw_Q args s o t) := by
  intro p e ha hc hk s m args below hf hfit hheap happ hpre
  obtain ⟨b, xs, hP⟩ := lw_pre_spec hpre.2.2 hpre.2.1
  obtain ⟨k, o, h1, h2, h3, hQ⟩ := lw_walk l hflags b xs p e ha hc hk s m args below hf ((Spec.applies_iff_loose hf).mp happ).1 hP trivial
  exact ⟨k, o, h1, h2, h3, hQ⟩
theorem lw_frame {s t : State} {o : Outcome} {args : Array Value} (h : Framed s o t [] 600000 7302250) :
    Framed s o t (fieldLocs frame_1_writes args s ++ arrayLocs frame_1_arrays args s ++ staticLocs frame_1_statics s) 600000 7302250 := h
theorem lw_limb (L : Cond) (hL : ∀ (args : Array Value) (s t : State), L.after args s (.returned (some (.int 1))) t = true) :
    ArmFor flags0 classFile x code maxLocals ret World_1 tables_1 room_1 Calls_1 rest_1 Pre_1
      (fun tb e a s o t => postC L tb e a s o t ∧ Framed s o t (fieldLocs frame_1_writes a s ++ arrayLocs frame_1_arrays a s ++ staticLocs frame_1_statics s) 600000 7302250) := by
  intro l hflags _ _ p e ha hc hk s m args below hf hfit hheap happ hpre
  obtain ⟨k, o, h1, h2, h3, rfl, hF⟩ := lw_comes l hflags p e ha hc hk s m args below hf hfit hheap happ hpre
  exact ⟨k, _, h1, h2, h3, hL args s _, lw_frame hF⟩
theorem i_vc : Claimed_1_1 ∧ Claimed_1_2 := ⟨lw_limb limb_1_1 (fun args s t => by simp [limb_1_1, Cond.after, Cond.holds, Cond.value]), lw_limb limb_1_2 (fun args s t => Cond.after_iff.mpr (by
  first | (rw [show limb_1_2 = Cond.eq .result (.int 1) from rfl, Cond.eq_ints (x := 1) (y := 1) rfl rfl]; simp; done) | (simp [limb_1_2, Cond.value, Term.eval]; done)))⟩
