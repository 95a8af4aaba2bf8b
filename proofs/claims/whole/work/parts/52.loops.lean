/-! the two constructors with loops, and the class's own -/
theorem vD_map {A : Nat → Prop} {ws ws' : va_W} (h : ws.map Prod.fst = ws'.map Prod.fst) (hD : va_D A ws) : va_D A ws' := by
  obtain ⟨h1, h2⟩ := vD_iff.mp hD
  refine vD_iff.mpr ⟨?_, fun q hq => ?_⟩
  · have h3 : (ws.map Prod.fst).Pairwise (fun a b => a ≠ b) := List.pairwise_map.mpr h1
    rw [h] at h3
    exact List.pairwise_map.mp h3
  · have h3 : q.1 ∈ ws.map Prod.fst := by
      rw [h]
      exact List.mem_map_of_mem hq
    obtain ⟨x, hx, e⟩ := List.mem_map.mp h3
    rw [← e]
    exact h2 x hx
theorem K_cong {cK : ClassId} {n : Nat} {f f' : Nat → Option Nat} (h : ∀ j, j < n → f j = f' j) : vp_cell cK (n, .inr (.inr (.inr (.inr f)))) = vp_cell cK (n, .inr (.inr (.inr (.inr f')))) := by
  rw [vp_cell_q, vp_cell_q]
  unfold arrV
  have e : (fun j : Fin n => va_rf (f j.val)) = (fun j : Fin n => va_rf (f' j.val)) := funext (fun j => by rw [h j.val j.isLt])
  rw [e]
theorem wd.kcong {D : va_G} {A : Nat → Prop} {H0 H : Heap} {locs : List Loc} {o : Nat × va_E} {a n : Nat} {cK : ClassId} {f f' : Nat → Option Nat} {X : va_W} (h : ∀ j, j < n → f j = f' j) (w : wd D A H0 H locs (o :: (a, .inl (cK, n, .inr (.inr (.inr (.inr f))))) :: X)) : wd D A H0 H locs (o :: (a, .inl (cK, n, .inr (.inr (.inr (.inr f'))))) :: X) := by
  refine ⟨vP_mem.mpr (fun q hq => ?_), vD_map (ws := o :: (a, .inl (cK, n, .inr (.inr (.inr (.inr f))))) :: X) (by simp only [List.map_cons]) w.2.1, w.2.2⟩
  rcases List.mem_cons.mp hq with e | hq
  · exact vP_mem.mp w.1 q (by rw [e]; exact List.mem_cons_self)
  · rcases List.mem_cons.mp hq with e | hq
    · have h1 := vP_mem.mp w.1 (a, .inl (cK, n, .inr (.inr (.inr (.inr f))))) (List.mem_cons_of_mem _ List.mem_cons_self)
      rw [e]
      show H[a]? = some (vp_cell cK (n, .inr (.inr (.inr (.inr f')))))
      rw [← K_cong h]
      exact h1
    · exact vP_mem.mp w.1 q (List.mem_cons_of_mem _ (List.mem_cons_of_mem _ hq))
theorem rc_succ {cI : ClassId} {ra : Nat → Nat → Nat} {rv : Nat → Nat → ar} {i : Nat} {b : Nat → Nat} : rc cI ra rv i ++ kc cI b (rv i) = rc cI (va_up ra i b) rv (i + 1) := by
  unfold rc
  rw [List.range_succ, List.flatMap_append]
  have e1 : va_up ra i b i = b := by simp [va_up]
  have e2 : (List.range i).flatMap (fun j => kc cI (va_up ra i b j) (rv j)) = (List.range i).flatMap (fun j => kc cI (ra j) (rv j)) := by
    apply fm_congr
    intro j hj
    have hne : j ≠ i := by
      have := List.mem_range.mp hj
      omega
    simp [va_up, hne]
  rw [e2]
  simp [e1]
theorem up_f {ra : Nat → Nat → Nat} {i : Nat} {b : Nat → Nat} : va_up (fun j => if j < i then some (ra j 0) else none) i (some (b 0)) = (fun j => if j < i + 1 then some (va_up ra i b j 0) else none) := by
  funext j
  unfold va_up
  by_cases h : j = i
  · subst h
    rw [if_pos rfl, if_pos (by omega), if_pos rfl]
  · rw [if_neg h, if_neg h]
    dsimp only
    by_cases h2 : j < i
    · rw [if_pos h2, if_pos (by omega)]
    · rw [if_neg h2, if_neg (by omega)]
theorem wd.ring {D : va_G} {A : Nat → Prop} {H0 H : Heap} {locs : List Loc} {cI cK : ClassId} {X : va_W} {o : Nat × va_E} {a n i q : Nat} {ra : Nat → Nat → Nat} {g : Nat → Nat} (w : wd D A H0 H locs (kc cI (gc q g) kv0 ++ (([o, (a, .inl (cK, n, .inr (.inr (.inr (.inr (va_up (fun j => if j < i then some (ra j 0) else none) i (some q)))))))] ++ X) ++ rc cI ra kvs0 i))) : wd D A H0 H locs (([o, (a, .inl (cK, n, .inr (.inr (.inr (.inr (fun j => if j < i + 1 then some (va_up ra i (gc q g) j 0) else none))))))] ++ X) ++ rc cI (va_up ra i (gc q g)) kvs0 (i + 1)) := by
  have e := up_f (ra := ra) (i := i) (b := gc q g)
  have e0 : gc q g 0 = q := rfl
  rw [e0] at e
  rw [e] at w
  rw [← rc_succ, ← List.append_assoc]
  exact w.perm List.perm_append_comm
abbrev rm_X4_init : Room := { frames := 3, cells := 73, slots := 5032, locals := 52 }
set_option maxRecDepth 100000 in
set_option maxHeartbeats 4000000 in
theorem k_X4_init (l : Launch) (D : va_G) (cI cZ cK : ClassId) (a0 : Nat) : In l D cI cZ cK yX4_init cX4_init 2 rm_X4_init 73 5032 [.ref a0] [(a0, .inr (4, [.null, .int 0, .int 0]))] (fun g => (([(a0, .inr (4, [.ref (g.1 0), .int 0, .int 0])), (g.1 0, .inl (cK, 8, .inr (.inr (.inr (.inr (fun j => some (g.2.1 j 0)))))))] ++ []) ++ rc cI g.2.1 kvs0 8)) := by
  refine in_of (by decide) rfl (Nat.le_of_ble_eq_true rfl) ?_
  intro p e s m args below meth c Q A ls hx hb hml hown hin2 hk hA w hret hl
  have hl : lv_has ls 2 [(0, .ref a0)] := hl
  refine lv_aload_n hx hb dX4_init_0 rfl (lv_at hl 0 rfl) ?_
  refine W.objInit hx hb hown (oi_X4 hk.2.1 args) (oi_i hk.2.1 args) (oi_c hk.2.1 args) rfl (by rw [hml]; exact hl.1) rfl dX4_init_1 (Nat.le_of_ble_eq_true rfl) (Nat.le_of_ble_eq_true rfl) ?_
  refine W.eq (g2 := F0 m 4 ls []) rfl ?_
  refine lv_aload_n hx hb dX4_init_4 rfl (lv_at hl 0 rfl) ?_
  refine lv_bipush (v := 8) hx hb dX4_init_5 (by decide) ?_
  refine na_q hx hb hown (cl_X4_9 hk.2.1 args) hk w hA (by decide) rfl (Nat.le_of_ble_eq_true rfl) (Nat.le_of_ble_eq_true rfl) (Nat.le_of_ble_eq_true rfl) dX4_init_7 (fun q7 H w => ?_)
  refine pr_X4_11 (ws' := [(a0, .inr (4, [.ref q7, .int 0, .int 0])), (q7, .inl (cK, 8, .inr (.inr (.inr (.inr (fun _ => none))))))]) hx hb hown hk w 0 rfl (Nat.le_of_ble_eq_true rfl) rfl hin2 dX4_init_10 (fun H locs w => ?_)
  have L : ∀ (k i : Nat), i + k = 8 → ∀ (ra : Nat → Nat → Nat) (H : Heap) (locs : List Loc) (ls : Array Slot), wd D A s.heap H locs (([(a0, .inr (4, [.ref q7, .int 0, .int 0])), (q7, .inl (cK, 8, .inr (.inr (.inr (.inr (fun j => if j < i then some (ra j 0) else none))))))] ++ []) ++ rc cI ra kvs0 i) → lv_has ls 2 [(0, .ref a0), (1, .int (nI i))] → W p l e rm_X4_init s m args below meth c H locs (1 + 9 * i) (8 + 628 * i) Q (F0 m 15 ls []) := by
    intro k
    induction k with
    | zero =>
      intro i hi ra H locs ls w hl
      have hi8 : i = 8 := by omega
      subst hi8
      refine lv_iload_n hx hb dX4_init_15 rfl (lv_at hl 1 rfl) ?_
      refine lv_bipush (v := 8) hx hb dX4_init_16 (by decide) ?_
      refine lv_icmp_ge (tgt := 40) hx hb dX4_init_18 (by decide) (fun cc => ?_) (fun cc => ?_)
      · refine W.widen (k := 73) (n := 5032) (Nat.le_of_ble_eq_true rfl) (Nat.le_of_ble_eq_true rfl) ?_
        exact hret _ _ _ _ (gl [q7], ra, fun _ _ => 0) (wd.kcong (f' := fun j => some (ra j 0)) (fun j hj => by rw [if_pos hj]) w) dX4_init_40
      · exact absurd (show (8 : Int32) ≤ nI 8 from by decide) cc
    | succ k ih =>
      intro i hi ra H locs ls w hl
      refine lv_iload_n hx hb dX4_init_15 rfl (lv_at hl 1 rfl) ?_
      refine lv_bipush (v := 8) hx hb dX4_init_16 (by decide) ?_
      refine lv_icmp_ge (tgt := 40) hx hb dX4_init_18 (by decide) (fun cc => ?_) (fun cc => ?_)
      · exact absurd cc (nI_ge (a := i) (b := 8) (by omega) (by omega))
      · refine lv_aload_n hx hb dX4_init_21 rfl (lv_at hl 0 rfl) ?_
        refine gf_X4_11 hx hb hown hk w.1 0 rfl rfl dX4_init_22 ?_
        refine lv_iload_n hx hb dX4_init_25 rfl (lv_at hl 1 rfl) ?_
        refine nn_X4_9 hx hb hown hk w hA (by show 1 + 9 * i + 1 ≤ 73; omega) (by show 8 + 628 * i + 9 ≤ 5032; omega) dX4_init_26 (fun q H w => ?_)
        refine lv_dup hx hb dX4_init_29 rfl ?_
        refine cIN (rest := [.ref q, .int (nI i), .ref q7]) (wr := (([(a0, .inr (4, [.ref q7, .int 0, .int 0])), (q7, .inl (cK, 8, .inr (.inr (.inr (.inr (fun j => if j < i then some (ra j 0) else none))))))] ++ []) ++ rc cI ra kvs0 i)) hx hb hml hown hk w hA (k_X1_init l D cI cZ cK q) (me_X1_init hk.2.1) rfl (mi_X1_init hk.2.1) (hk.2.2.1 (RX4, 17, yX1_init) (List.mem_of_getElem? (i := 10) rfl)) List.perm_append_comm hl.1 rfl rfl (Nat.le_of_ble_eq_true rfl) ⟨rfl, rfl, Nat.le_of_ble_eq_true rfl, Nat.le_of_ble_eq_true rfl, by show 1 + 9 * i + 1 + 8 ≤ 73; omega, by show 8 + 628 * i + 9 + 619 ≤ 5032; omega⟩ dX4_init_30 (fun g H locs w => ?_)
        have w : wd D A s.heap H locs (kc cI (gc q g.1) kv0 ++ (([(a0, .inr (4, [.ref q7, .int 0, .int 0])), (q7, .inl (cK, 8, .inr (.inr (.inr (.inr (fun j => if j < i then some (ra j 0) else none))))))] ++ []) ++ rc cI ra kvs0 i)) := w
        have hin : vp_in (nI i) 8 := vp_in_nI (by omega) (by omega)
        refine va_astq hx hb hk.1 w.1 w.2.1 w.2.2 10 2 0 1 (r := (RX1, TX1, 9)) rfl rfl rfl rfl hin dX4_init_33 (fun H locs hP hD hS => ?_)
        have w : wd D A s.heap H locs (kc cI (gc q g.1) kv0 ++ (([(a0, .inr (4, [.ref q7, .int 0, .int 0])), (q7, .inl (cK, 8, .inr (.inr (.inr (.inr (va_up (fun j => if j < i then some (ra j 0) else none) (nI i).toNatClampNeg (some q)))))))] ++ []) ++ rc cI ra kvs0 i)) := ⟨hP, hD, hS⟩
        rw [clN (by omega)] at w
        refine lv_iinc (v := nI (i + 1)) (lv' := [(1, .int (nI (i + 1))), (0, .ref a0)]) hx hb dX4_init_34 hl (k := 1) rfl (nI_1 i) (by decide) rfl (fun ls hl => ?_)
        refine lv_goto (tgt := 15) hx hb dX4_init_37 (by decide) ?_
        refine W.widen (k := 1 + 9 * (i + 1)) (n := 8 + 628 * (i + 1)) (by omega) (by omega) ?_
        exact ih (i + 1) (by omega) (va_up ra i (gc q g.1)) _ _ _ w.ring (lv_sub hl [1, 0] rfl)
  refine lv_iconst (v := 0) hx hb dX4_init_13 (by decide) ?_
  refine lv_istore_n (lv' := [(1, .int 0), (0, .ref a0)]) hx hb dX4_init_14 rfl hl (by decide) rfl (fun ls hl => ?_)
  exact L 8 0 (by omega) (fun _ _ => 0) _ _ _ (wd.kcong (f' := fun j => if j < 0 then some ((fun _ _ => 0 : Nat → Nat → Nat) j 0) else none) (fun j hj => by rw [if_neg (by omega)]) w) (lv_sub hl [1, 0] rfl)
abbrev rm_X0_init : Room := { frames := 3, cells := 20, slots := 1260, locals := 52 }
set_option maxRecDepth 100000 in
set_option maxHeartbeats 4000000 in
theorem k_X0_init (l : Launch) (D : va_G) (cI cZ cK : ClassId) (a0 : Nat) : In l D cI cZ cK yX0_init cX0_init 2 rm_X0_init 20 1260 [.ref a0] [(a0, .inr (0, [.null, .null]))] (fun g => (([(a0, .inr (0, [.ref (g.1 0), .ref (g.1 1)])), (g.1 0, .inl (cK, 2, .inr (.inr (.inr (.inr (fun j => some (g.2.1 j 0)))))))] ++ [(g.1 1, .inl (cZ, 2, .inl zr))]) ++ rc cI g.2.1 kvs0 2)) := by
  refine in_of (by decide) rfl (Nat.le_of_ble_eq_true rfl) ?_
  intro p e s m args below meth c Q A ls hx hb hml hown hin2 hk hA w hret hl
  have hl : lv_has ls 2 [(0, .ref a0)] := hl
  refine lv_aload_n hx hb dX0_init_0 rfl (lv_at hl 0 rfl) ?_
  refine W.objInit hx hb hown (oi_X0 hk.2.1 args) (oi_i hk.2.1 args) (oi_c hk.2.1 args) rfl (by rw [hml]; exact hl.1) rfl dX0_init_1 (Nat.le_of_ble_eq_true rfl) (Nat.le_of_ble_eq_true rfl) ?_
  refine W.eq (g2 := F0 m 4 ls []) rfl ?_
  refine lv_aload_n hx hb dX0_init_4 rfl (lv_at hl 0 rfl) ?_
  refine lv_iconst (v := 2) hx hb dX0_init_5 (by decide) ?_
  refine na_q hx hb hown (cl_X0_9 hk.2.1 args) hk w hA (by decide) rfl (Nat.le_of_ble_eq_true rfl) (Nat.le_of_ble_eq_true rfl) (Nat.le_of_ble_eq_true rfl) dX0_init_6 (fun q6 H w => ?_)
  refine pr_X0_11 (ws' := [(a0, .inr (0, [.ref q6, .null])), (q6, .inl (cK, 2, .inr (.inr (.inr (.inr (fun _ => none))))))]) hx hb hown hk w 0 rfl (Nat.le_of_ble_eq_true rfl) rfl hin2 dX0_init_9 (fun H locs w => ?_)
  refine lv_aload_n hx hb dX0_init_12 rfl (lv_at hl 0 rfl) ?_
  refine lv_iconst (v := 2) hx hb dX0_init_13 (by decide) ?_
  refine na_z hx hb hk w hA (by decide) rfl (Nat.le_of_ble_eq_true rfl) (Nat.le_of_ble_eq_true rfl) (Nat.le_of_ble_eq_true rfl) dX0_init_14 (fun q14 H w => ?_)
  refine pr_X0_17 (ws' := [(a0, .inr (0, [.ref q6, .ref q14])), (q6, .inl (cK, 2, .inr (.inr (.inr (.inr (fun _ => none)))))), (q14, .inl (cZ, 2, .inl zr))]) hx hb hown hk w 0 rfl (Nat.le_of_ble_eq_true rfl) rfl hin2 dX0_init_16 (fun H locs w => ?_)
  have L : ∀ (k i : Nat), i + k = 2 → ∀ (ra : Nat → Nat → Nat) (H : Heap) (locs : List Loc) (ls : Array Slot), wd D A s.heap H locs (([(a0, .inr (0, [.ref q6, .ref q14])), (q6, .inl (cK, 2, .inr (.inr (.inr (.inr (fun j => if j < i then some (ra j 0) else none))))))] ++ [(q14, .inl (cZ, 2, .inl zr))]) ++ rc cI ra kvs0 i) → lv_has ls 2 [(0, .ref a0), (1, .int (nI i))] → W p l e rm_X0_init s m args below meth c H locs (2 + 9 * i) (4 + 628 * i) Q (F0 m 21 ls []) := by
    intro k
    induction k with
    | zero =>
      intro i hi ra H locs ls w hl
      have hi8 : i = 2 := by omega
      subst hi8
      refine lv_iload_n hx hb dX0_init_21 rfl (lv_at hl 1 rfl) ?_
      refine lv_iconst (v := 2) hx hb dX0_init_22 (by decide) ?_
      refine lv_icmp_ge (tgt := 45) hx hb dX0_init_23 (by decide) (fun cc => ?_) (fun cc => ?_)
      · refine W.widen (k := 20) (n := 1260) (Nat.le_of_ble_eq_true rfl) (Nat.le_of_ble_eq_true rfl) ?_
        exact hret _ _ _ _ (gl [q6, q14], ra, fun _ _ => 0) (wd.kcong (f' := fun j => some (ra j 0)) (fun j hj => by rw [if_pos hj]) w) dX0_init_45
      · exact absurd (show (2 : Int32) ≤ nI 2 from by decide) cc
    | succ k ih =>
      intro i hi ra H locs ls w hl
      refine lv_iload_n hx hb dX0_init_21 rfl (lv_at hl 1 rfl) ?_
      refine lv_iconst (v := 2) hx hb dX0_init_22 (by decide) ?_
      refine lv_icmp_ge (tgt := 45) hx hb dX0_init_23 (by decide) (fun cc => ?_) (fun cc => ?_)
      · exact absurd cc (nI_ge (a := i) (b := 2) (by omega) (by omega))
      · refine lv_aload_n hx hb dX0_init_26 rfl (lv_at hl 0 rfl) ?_
        refine gf_X0_11 hx hb hown hk w.1 0 rfl rfl dX0_init_27 ?_
        refine lv_iload_n hx hb dX0_init_30 rfl (lv_at hl 1 rfl) ?_
        refine nn_X0_9 hx hb hown hk w hA (by show 2 + 9 * i + 1 ≤ 20; omega) (by show 4 + 628 * i + 9 ≤ 1260; omega) dX0_init_31 (fun q H w => ?_)
        refine lv_dup hx hb dX0_init_34 rfl ?_
        refine cIN (rest := [.ref q, .int (nI i), .ref q6]) (wr := (([(a0, .inr (0, [.ref q6, .ref q14])), (q6, .inl (cK, 2, .inr (.inr (.inr (.inr (fun j => if j < i then some (ra j 0) else none))))))] ++ [(q14, .inl (cZ, 2, .inl zr))]) ++ rc cI ra kvs0 i)) hx hb hml hown hk w hA (k_X1_init l D cI cZ cK q) (me_X1_init hk.2.1) rfl (mi_X1_init hk.2.1) (hk.2.2.1 (RX0, 21, yX1_init) (List.mem_of_getElem? (i := 4) rfl)) List.perm_append_comm hl.1 rfl rfl (Nat.le_of_ble_eq_true rfl) ⟨rfl, rfl, Nat.le_of_ble_eq_true rfl, Nat.le_of_ble_eq_true rfl, by show 2 + 9 * i + 1 + 8 ≤ 20; omega, by show 4 + 628 * i + 9 + 619 ≤ 1260; omega⟩ dX0_init_35 (fun g H locs w => ?_)
        have w : wd D A s.heap H locs (kc cI (gc q g.1) kv0 ++ (([(a0, .inr (0, [.ref q6, .ref q14])), (q6, .inl (cK, 2, .inr (.inr (.inr (.inr (fun j => if j < i then some (ra j 0) else none))))))] ++ [(q14, .inl (cZ, 2, .inl zr))]) ++ rc cI ra kvs0 i)) := w
        have hin : vp_in (nI i) 2 := vp_in_nI (by omega) (by omega)
        refine va_astq hx hb hk.1 w.1 w.2.1 w.2.2 10 2 0 1 (r := (RX1, TX1, 9)) rfl rfl rfl rfl hin dX0_init_38 (fun H locs hP hD hS => ?_)
        have w : wd D A s.heap H locs (kc cI (gc q g.1) kv0 ++ (([(a0, .inr (0, [.ref q6, .ref q14])), (q6, .inl (cK, 2, .inr (.inr (.inr (.inr (va_up (fun j => if j < i then some (ra j 0) else none) (nI i).toNatClampNeg (some q)))))))] ++ [(q14, .inl (cZ, 2, .inl zr))]) ++ rc cI ra kvs0 i)) := ⟨hP, hD, hS⟩
        rw [clN (by omega)] at w
        refine lv_iinc (v := nI (i + 1)) (lv' := [(1, .int (nI (i + 1))), (0, .ref a0)]) hx hb dX0_init_39 hl (k := 1) rfl (nI_1 i) (by decide) rfl (fun ls hl => ?_)
        refine lv_goto (tgt := 21) hx hb dX0_init_42 (by decide) ?_
        refine W.widen (k := 2 + 9 * (i + 1)) (n := 4 + 628 * (i + 1)) (by omega) (by omega) ?_
        exact ih (i + 1) (by omega) (va_up ra i (gc q g.1)) _ _ _ w.ring (lv_sub hl [1, 0] rfl)
  refine lv_iconst (v := 0) hx hb dX0_init_19 (by decide) ?_
  refine lv_istore_n (lv' := [(1, .int 0), (0, .ref a0)]) hx hb dX0_init_20 rfl hl (by decide) rfl (fun ls hl => ?_)
  exact L 2 0 (by omega) (fun _ _ => 0) _ _ _ (wd.kcong (f' := fun j => if j < 0 then some ((fun _ _ => 0 : Nat → Nat → Nat) j 0) else none) (fun j hj => by rw [if_neg (by omega)]) w) (lv_sub hl [1, 0] rfl)
