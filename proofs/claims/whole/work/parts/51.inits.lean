/-! the constructors -/
theorem pmS {F t c : va_W} : ((F ++ t) ++ c).Perm ((F ++ c) ++ t) := by
  rw [List.append_assoc, List.append_assoc]
  exact List.Perm.append_left _ List.perm_append_comm
theorem pmX {Fi O t1 t2 : va_W} : ((Fi ++ t2) ++ (O ++ t1)).Perm ((Fi ++ O) ++ (t1 ++ t2)) := by
  rw [List.append_assoc, List.append_assoc]
  refine List.Perm.append_left _ ?_
  refine List.perm_append_comm.trans ?_
  rw [List.append_assoc]
def row0 : ar := upd (fun i => if 406 ≤ i ∧ i < 622 then -1 else 0) 1 (-1)
theorem begins_0 : f_X12_begins 1000 zr = some row0 := by
  unfold f_X12_begins
  have hbg := begins_L 1000 0 zr (by omega) (by omega)
  have e0 : nI 0 = 0 := rfl
  rw [e0] at hbg
  rw [hbg, Option.bind_some]
  have hck : ∀ (A : Option ar), ck (inb 1 622) A = A := fun A => ckN (a := 1) (n := 622) (by omega) (by omega)
  have hcl : (1 : Int32).toNatClampNeg = 1 := clN (a := 1) (by omega)
  rw [hck, hcl]
  unfold row0
  refine congrArg (fun z : ar => some (upd z 1 (-1))) (?_ : (fun i => if 0 ≤ i ∧ i < 622 then (if 406 ≤ i then (-1 : Int32) else 0) else zr i) = (fun i => if 406 ≤ i ∧ i < 622 then -1 else 0))
  funext i
  by_cases h1 : i < 622
  · rw [if_pos ⟨Nat.zero_le _, h1⟩]
    by_cases h2 : 406 ≤ i
    · rw [if_pos h2, if_pos ⟨h2, h1⟩]
    · rw [if_neg h2, if_neg (fun q => h2 q.1)]
  · rw [if_neg (fun q => h1 q.2), if_neg (fun q => h1 q.2)]
    rfl
abbrev rm_X9_init : Room := { frames := 1, cells := 1, slots := 120, locals := 12 }
set_option maxRecDepth 100000 in
set_option maxHeartbeats 4000000 in
theorem k_X9_init (l : Launch) (D : va_G) (cI cZ cK : ClassId) (a0 : Nat) : In l D cI cZ cK yX9_init cX9_init 1 rm_X9_init 1 120 [.ref a0] [(a0, .inr (9, [.null, .int 0]))] (fun g => [(a0, .inr (9, [.ref (g.1 0), .int 0])), ((g.1 0), .inl (cI, 120, .inl zr))]) := by
  refine in_of (by decide) rfl (Nat.le_of_ble_eq_true rfl) ?_
  intro p e s m args below meth c Q A ls hx hb hml hown hin2 hk hA w hret hl
  have hl : lv_has ls 1 [(0, .ref a0)] := hl
  refine lv_aload_n hx hb dX9_init_0 rfl (lv_at hl 0 rfl) ?_
  refine W.objInit hx hb hown (oi_X9 hk.2.1 args) (oi_i hk.2.1 args) (oi_c hk.2.1 args) rfl (by rw [hml]; exact hl.1) rfl dX9_init_1 (Nat.le_of_ble_eq_true rfl) (Nat.le_of_ble_eq_true rfl) ?_
  refine W.eq (g2 := F0 m 4 ls []) rfl ?_
  refine lv_aload_n hx hb dX9_init_4 rfl (lv_at hl 0 rfl) ?_
  refine lv_bipush (v := 120) hx hb dX9_init_5 (by decide) ?_
  refine na_i hx hb hk w hA (by decide) rfl (Nat.le_of_ble_eq_true rfl) (Nat.le_of_ble_eq_true rfl) (Nat.le_of_ble_eq_true rfl) dX9_init_7 (fun q7 H w => ?_)
  have w : wd D A s.heap H _ [(a0, .inr (9, [.null, .int 0])), (q7, .inl (cI, 120, .inl zr))] := w
  refine W.widen (k := 1) (n := 120) (Nat.le_of_ble_eq_true rfl) (Nat.le_of_ble_eq_true rfl) ?_
  refine pr_X9_9 (ws' := [(a0, .inr (9, [.ref q7, .int 0])), (q7, .inl (cI, 120, .inl zr))]) hx hb hown hk w 0 rfl (Nat.le_of_ble_eq_true rfl) rfl hin2 dX9_init_9 (fun H locs w => ?_)
  refine W.widen (k := 1) (n := 120) (Nat.le_of_ble_eq_true rfl) (Nat.le_of_ble_eq_true rfl) ?_
  exact hret _ _ _ _ (gl [q7], (fun _ _ => 0), (fun _ _ => 0)) (w) dX9_init_12
abbrev rm_X3_init : Room := { frames := 1, cells := 1, slots := 36, locals := 12 }
set_option maxRecDepth 100000 in
set_option maxHeartbeats 4000000 in
theorem k_X3_init (l : Launch) (D : va_G) (cI cZ cK : ClassId) (a0 : Nat) : In l D cI cZ cK yX3_init cX3_init 1 rm_X3_init 1 36 [.ref a0] [(a0, .inr (3, [.null, .int 0]))] (fun g => [(a0, .inr (3, [.ref (g.1 0), .int 0])), ((g.1 0), .inl (cI, 36, .inl zr))]) := by
  refine in_of (by decide) rfl (Nat.le_of_ble_eq_true rfl) ?_
  intro p e s m args below meth c Q A ls hx hb hml hown hin2 hk hA w hret hl
  have hl : lv_has ls 1 [(0, .ref a0)] := hl
  refine lv_aload_n hx hb dX3_init_0 rfl (lv_at hl 0 rfl) ?_
  refine W.objInit hx hb hown (oi_X3 hk.2.1 args) (oi_i hk.2.1 args) (oi_c hk.2.1 args) rfl (by rw [hml]; exact hl.1) rfl dX3_init_1 (Nat.le_of_ble_eq_true rfl) (Nat.le_of_ble_eq_true rfl) ?_
  refine W.eq (g2 := F0 m 4 ls []) rfl ?_
  refine lv_aload_n hx hb dX3_init_4 rfl (lv_at hl 0 rfl) ?_
  refine lv_bipush (v := 36) hx hb dX3_init_5 (by decide) ?_
  refine na_i hx hb hk w hA (by decide) rfl (Nat.le_of_ble_eq_true rfl) (Nat.le_of_ble_eq_true rfl) (Nat.le_of_ble_eq_true rfl) dX3_init_7 (fun q7 H w => ?_)
  have w : wd D A s.heap H _ [(a0, .inr (3, [.null, .int 0])), (q7, .inl (cI, 36, .inl zr))] := w
  refine W.widen (k := 1) (n := 36) (Nat.le_of_ble_eq_true rfl) (Nat.le_of_ble_eq_true rfl) ?_
  refine pr_X3_9 (ws' := [(a0, .inr (3, [.ref q7, .int 0])), (q7, .inl (cI, 36, .inl zr))]) hx hb hown hk w 0 rfl (Nat.le_of_ble_eq_true rfl) rfl hin2 dX3_init_9 (fun H locs w => ?_)
  refine W.widen (k := 1) (n := 36) (Nat.le_of_ble_eq_true rfl) (Nat.le_of_ble_eq_true rfl) ?_
  exact hret _ _ _ _ (gl [q7], (fun _ _ => 0), (fun _ _ => 0)) (w) dX3_init_12
abbrev rm_X2_init : Room := { frames := 1, cells := 1, slots := 36, locals := 12 }
set_option maxRecDepth 100000 in
set_option maxHeartbeats 4000000 in
theorem k_X2_init (l : Launch) (D : va_G) (cI cZ cK : ClassId) (a0 : Nat) : In l D cI cZ cK yX2_init cX2_init 1 rm_X2_init 1 36 [.ref a0] [(a0, .inr (2, [.null, .int 0]))] (fun g => [(a0, .inr (2, [.ref (g.1 0), .int 0])), ((g.1 0), .inl (cI, 36, .inl zr))]) := by
  refine in_of (by decide) rfl (Nat.le_of_ble_eq_true rfl) ?_
  intro p e s m args below meth c Q A ls hx hb hml hown hin2 hk hA w hret hl
  have hl : lv_has ls 1 [(0, .ref a0)] := hl
  refine lv_aload_n hx hb dX2_init_0 rfl (lv_at hl 0 rfl) ?_
  refine W.objInit hx hb hown (oi_X2 hk.2.1 args) (oi_i hk.2.1 args) (oi_c hk.2.1 args) rfl (by rw [hml]; exact hl.1) rfl dX2_init_1 (Nat.le_of_ble_eq_true rfl) (Nat.le_of_ble_eq_true rfl) ?_
  refine W.eq (g2 := F0 m 4 ls []) rfl ?_
  refine lv_aload_n hx hb dX2_init_4 rfl (lv_at hl 0 rfl) ?_
  refine lv_bipush (v := 36) hx hb dX2_init_5 (by decide) ?_
  refine na_i hx hb hk w hA (by decide) rfl (Nat.le_of_ble_eq_true rfl) (Nat.le_of_ble_eq_true rfl) (Nat.le_of_ble_eq_true rfl) dX2_init_7 (fun q7 H w => ?_)
  have w : wd D A s.heap H _ [(a0, .inr (2, [.null, .int 0])), (q7, .inl (cI, 36, .inl zr))] := w
  refine W.widen (k := 1) (n := 36) (Nat.le_of_ble_eq_true rfl) (Nat.le_of_ble_eq_true rfl) ?_
  refine pr_X2_9 (ws' := [(a0, .inr (2, [.ref q7, .int 0])), (q7, .inl (cI, 36, .inl zr))]) hx hb hown hk w 0 rfl (Nat.le_of_ble_eq_true rfl) rfl hin2 dX2_init_9 (fun H locs w => ?_)
  refine W.widen (k := 1) (n := 36) (Nat.le_of_ble_eq_true rfl) (Nat.le_of_ble_eq_true rfl) ?_
  exact hret _ _ _ _ (gl [q7], (fun _ _ => 0), (fun _ _ => 0)) (w) dX2_init_12
abbrev rm_X8_init : Room := { frames := 1, cells := 3, slots := 18, locals := 12 }
set_option maxRecDepth 100000 in
set_option maxHeartbeats 4000000 in
theorem k_X8_init (l : Launch) (D : va_G) (cI cZ cK : ClassId) (a0 : Nat) : In l D cI cZ cK yX8_init cX8_init 1 rm_X8_init 3 18 [.ref a0] [(a0, .inr (8, [.null, .null, .null, .int 0]))] (fun g => [(a0, .inr (8, [.ref (g.1 0), .ref (g.1 1), .ref (g.1 2), .int 0])), ((g.1 0), .inl (cI, 6, .inl zr)), ((g.1 1), .inl (cI, 6, .inl zr)), ((g.1 2), .inl (cI, 6, .inl zr))]) := by
  refine in_of (by decide) rfl (Nat.le_of_ble_eq_true rfl) ?_
  intro p e s m args below meth c Q A ls hx hb hml hown hin2 hk hA w hret hl
  have hl : lv_has ls 1 [(0, .ref a0)] := hl
  refine lv_aload_n hx hb dX8_init_0 rfl (lv_at hl 0 rfl) ?_
  refine W.objInit hx hb hown (oi_X8 hk.2.1 args) (oi_i hk.2.1 args) (oi_c hk.2.1 args) rfl (by rw [hml]; exact hl.1) rfl dX8_init_1 (Nat.le_of_ble_eq_true rfl) (Nat.le_of_ble_eq_true rfl) ?_
  refine W.eq (g2 := F0 m 4 ls []) rfl ?_
  refine lv_aload_n hx hb dX8_init_4 rfl (lv_at hl 0 rfl) ?_
  refine lv_bipush (v := 6) hx hb dX8_init_5 (by decide) ?_
  refine na_i hx hb hk w hA (by decide) rfl (Nat.le_of_ble_eq_true rfl) (Nat.le_of_ble_eq_true rfl) (Nat.le_of_ble_eq_true rfl) dX8_init_7 (fun q7 H w => ?_)
  have w : wd D A s.heap H _ [(a0, .inr (8, [.null, .null, .null, .int 0])), (q7, .inl (cI, 6, .inl zr))] := w
  refine W.widen (k := 1) (n := 6) (Nat.le_of_ble_eq_true rfl) (Nat.le_of_ble_eq_true rfl) ?_
  refine pr_X8_9 (ws' := [(a0, .inr (8, [.ref q7, .null, .null, .int 0])), (q7, .inl (cI, 6, .inl zr))]) hx hb hown hk w 0 rfl (Nat.le_of_ble_eq_true rfl) rfl hin2 dX8_init_9 (fun H locs w => ?_)
  refine lv_aload_n hx hb dX8_init_12 rfl (lv_at hl 0 rfl) ?_
  refine lv_bipush (v := 6) hx hb dX8_init_13 (by decide) ?_
  refine na_i hx hb hk w hA (by decide) rfl (Nat.le_of_ble_eq_true rfl) (Nat.le_of_ble_eq_true rfl) (Nat.le_of_ble_eq_true rfl) dX8_init_15 (fun q15 H w => ?_)
  have w : wd D A s.heap H _ [(a0, .inr (8, [.ref q7, .null, .null, .int 0])), (q7, .inl (cI, 6, .inl zr)), (q15, .inl (cI, 6, .inl zr))] := w
  refine W.widen (k := 2) (n := 12) (Nat.le_of_ble_eq_true rfl) (Nat.le_of_ble_eq_true rfl) ?_
  refine pr_X8_15 (ws' := [(a0, .inr (8, [.ref q7, .ref q15, .null, .int 0])), (q7, .inl (cI, 6, .inl zr)), (q15, .inl (cI, 6, .inl zr))]) hx hb hown hk w 0 rfl (Nat.le_of_ble_eq_true rfl) rfl hin2 dX8_init_17 (fun H locs w => ?_)
  refine lv_aload_n hx hb dX8_init_20 rfl (lv_at hl 0 rfl) ?_
  refine lv_bipush (v := 6) hx hb dX8_init_21 (by decide) ?_
  refine na_i hx hb hk w hA (by decide) rfl (Nat.le_of_ble_eq_true rfl) (Nat.le_of_ble_eq_true rfl) (Nat.le_of_ble_eq_true rfl) dX8_init_23 (fun q23 H w => ?_)
  have w : wd D A s.heap H _ [(a0, .inr (8, [.ref q7, .ref q15, .null, .int 0])), (q7, .inl (cI, 6, .inl zr)), (q15, .inl (cI, 6, .inl zr)), (q23, .inl (cI, 6, .inl zr))] := w
  refine W.widen (k := 3) (n := 18) (Nat.le_of_ble_eq_true rfl) (Nat.le_of_ble_eq_true rfl) ?_
  refine pr_X8_18 (ws' := [(a0, .inr (8, [.ref q7, .ref q15, .ref q23, .int 0])), (q7, .inl (cI, 6, .inl zr)), (q15, .inl (cI, 6, .inl zr)), (q23, .inl (cI, 6, .inl zr))]) hx hb hown hk w 0 rfl (Nat.le_of_ble_eq_true rfl) rfl hin2 dX8_init_25 (fun H locs w => ?_)
  refine W.widen (k := 3) (n := 18) (Nat.le_of_ble_eq_true rfl) (Nat.le_of_ble_eq_true rfl) ?_
  exact hret _ _ _ _ (gl [q7, q15, q23], (fun _ _ => 0), (fun _ _ => 0)) (w) dX8_init_28
abbrev rm_X7_init : Room := { frames := 1, cells := 0, slots := 0, locals := 20 }
set_option maxRecDepth 100000 in
set_option maxHeartbeats 4000000 in
theorem k_X7_init (l : Launch) (D : va_G) (cI cZ cK : ClassId) (a0 : Nat) : In l D cI cZ cK yX7_init cX7_init 1 rm_X7_init 0 0 [.ref a0] [(a0, .inr (7, [.int 0, .int 0, .int 0, .int 0, .int 0, .int 0]))] (fun g => [(a0, .inr (7, [.int 2, .int 0, .int 0, .int 99, .int 60, .int 0]))]) := by
  refine in_of (by decide) rfl (Nat.le_of_ble_eq_true rfl) ?_
  intro p e s m args below meth c Q A ls hx hb hml hown hin2 hk hA w hret hl
  have hl : lv_has ls 1 [(0, .ref a0)] := hl
  refine lv_aload_n hx hb dX7_init_0 rfl (lv_at hl 0 rfl) ?_
  refine W.objInit hx hb hown (oi_X7 hk.2.1 args) (oi_i hk.2.1 args) (oi_c hk.2.1 args) rfl (by rw [hml]; exact hl.1) rfl dX7_init_1 (Nat.le_of_ble_eq_true rfl) (Nat.le_of_ble_eq_true rfl) ?_
  refine W.eq (g2 := F0 m 4 ls []) rfl ?_
  refine lv_aload_n hx hb dX7_init_4 rfl (lv_at hl 0 rfl) ?_
  refine cMV (rest := []) (wr := []) (ws' := [(a0, .inr (7, [.int 2, .int 0, .int 0, .int 99, .int 60, .int 0]))]) hx hb hml hown hk w hA (k_X7_restart l D cI cZ cK a0 0 0 0 0 0 0 (2, 0, 0, 99, 60, 0) rfl) (me_X7_restart hk.2.1) (mi_X7_restart hk.2.1) (ml_X7_7 hk.2.1) (pmn 1 [0] rfl rfl (by decide)) (pmn 1 [0] rfl rfl (by decide)) 0 rfl rfl rfl hl.1 rfl rfl (Nat.le_of_ble_eq_true rfl) ⟨rfl, rfl, Nat.le_of_ble_eq_true rfl, Nat.le_of_ble_eq_true rfl, Nat.zero_le _, Nat.zero_le _⟩ dX7_init_5 (fun H locs w => ?_)
  refine W.eq (g2 := F0 m 8 ls []) rfl ?_
  refine W.widen (k := 0) (n := 0) (Nat.le_of_ble_eq_true rfl) (Nat.le_of_ble_eq_true rfl) ?_
  exact hret _ _ _ _ (gl [], (fun _ _ => 0), (fun _ _ => 0)) (w) dX7_init_8
abbrev rm_X5_init : Room := { frames := 1, cells := 0, slots := 0, locals := 12 }
set_option maxRecDepth 100000 in
set_option maxHeartbeats 4000000 in
theorem k_X5_init (l : Launch) (D : va_G) (cI cZ cK : ClassId) (a0 b1 b2 : Nat) : In l D cI cZ cK yX5_init cX5_init 3 rm_X5_init 0 0 [.ref a0, .ref b1, .ref b2] [(a0, .inr (5, [.null, .null]))] (fun g => [(a0, .inr (5, [.ref b1, .ref b2]))]) := by
  refine in_of (by decide) rfl (Nat.le_of_ble_eq_true rfl) ?_
  intro p e s m args below meth c Q A ls hx hb hml hown hin2 hk hA w hret hl
  have hl : lv_has ls 3 [(0, .ref a0), (1, .ref b1), (2, .ref b2)] := hl
  refine lv_aload_n hx hb dX5_init_0 rfl (lv_at hl 0 rfl) ?_
  refine W.objInit hx hb hown (oi_X5 hk.2.1 args) (oi_i hk.2.1 args) (oi_c hk.2.1 args) rfl (by rw [hml]; exact hl.1) rfl dX5_init_1 (Nat.le_of_ble_eq_true rfl) (Nat.le_of_ble_eq_true rfl) ?_
  refine W.eq (g2 := F0 m 4 ls []) rfl ?_
  refine lv_aload_n hx hb dX5_init_4 rfl (lv_at hl 0 rfl) ?_
  refine lv_aload_n hx hb dX5_init_5 rfl (lv_at hl 1 rfl) ?_
  refine pr_X5_9 (ws' := [(a0, .inr (5, [.ref b1, .null]))]) hx hb hown hk w 0 rfl (Nat.le_of_ble_eq_true rfl) rfl hin2 dX5_init_6 (fun H locs w => ?_)
  refine lv_aload_n hx hb dX5_init_9 rfl (lv_at hl 0 rfl) ?_
  refine lv_aload_n hx hb dX5_init_10 rfl (lv_at hl 2 rfl) ?_
  refine pr_X5_15 (ws' := [(a0, .inr (5, [.ref b1, .ref b2]))]) hx hb hown hk w 0 rfl (Nat.le_of_ble_eq_true rfl) rfl hin2 dX5_init_11 (fun H locs w => ?_)
  refine W.widen (k := 0) (n := 0) (Nat.le_of_ble_eq_true rfl) (Nat.le_of_ble_eq_true rfl) ?_
  exact hret _ _ _ _ (gl [], (fun _ _ => 0), (fun _ _ => 0)) (w) dX5_init_14
abbrev rm_X10_init : Room := { frames := 1, cells := 1, slots := 6, locals := 12 }
set_option maxRecDepth 100000 in
set_option maxHeartbeats 4000000 in
theorem k_X10_init (l : Launch) (D : va_G) (cI cZ cK : ClassId) (a0 b1 : Nat) : In l D cI cZ cK yX10_init cX10_init 2 rm_X10_init 1 6 [.ref a0, .ref b1] [(a0, .inr (10, [.null, .null, .int 0, .int 0]))] (fun g => [(a0, .inr (10, [.ref b1, .ref (g.1 0), .int 0, .int 0])), ((g.1 0), .inl (cI, 6, .inl zr))]) := by
  refine in_of (by decide) rfl (Nat.le_of_ble_eq_true rfl) ?_
  intro p e s m args below meth c Q A ls hx hb hml hown hin2 hk hA w hret hl
  have hl : lv_has ls 2 [(0, .ref a0), (1, .ref b1)] := hl
  refine lv_aload_n hx hb dX10_init_0 rfl (lv_at hl 0 rfl) ?_
  refine W.objInit hx hb hown (oi_X10 hk.2.1 args) (oi_i hk.2.1 args) (oi_c hk.2.1 args) rfl (by rw [hml]; exact hl.1) rfl dX10_init_1 (Nat.le_of_ble_eq_true rfl) (Nat.le_of_ble_eq_true rfl) ?_
  refine W.eq (g2 := F0 m 4 ls []) rfl ?_
  refine lv_aload_n hx hb dX10_init_4 rfl (lv_at hl 0 rfl) ?_
  refine lv_bipush (v := 6) hx hb dX10_init_5 (by decide) ?_
  refine na_i hx hb hk w hA (by decide) rfl (Nat.le_of_ble_eq_true rfl) (Nat.le_of_ble_eq_true rfl) (Nat.le_of_ble_eq_true rfl) dX10_init_7 (fun q7 H w => ?_)
  have w : wd D A s.heap H _ [(a0, .inr (10, [.null, .null, .int 0, .int 0])), (q7, .inl (cI, 6, .inl zr))] := w
  refine W.widen (k := 1) (n := 6) (Nat.le_of_ble_eq_true rfl) (Nat.le_of_ble_eq_true rfl) ?_
  refine pr_X10_9 (ws' := [(a0, .inr (10, [.null, .ref q7, .int 0, .int 0])), (q7, .inl (cI, 6, .inl zr))]) hx hb hown hk w 0 rfl (Nat.le_of_ble_eq_true rfl) rfl hin2 dX10_init_9 (fun H locs w => ?_)
  refine lv_aload_n hx hb dX10_init_12 rfl (lv_at hl 0 rfl) ?_
  refine lv_aload_n hx hb dX10_init_13 rfl (lv_at hl 1 rfl) ?_
  refine pr_X10_15 (ws' := [(a0, .inr (10, [.ref b1, .ref q7, .int 0, .int 0])), (q7, .inl (cI, 6, .inl zr))]) hx hb hown hk w 0 rfl (Nat.le_of_ble_eq_true rfl) rfl hin2 dX10_init_14 (fun H locs w => ?_)
  refine W.widen (k := 1) (n := 6) (Nat.le_of_ble_eq_true rfl) (Nat.le_of_ble_eq_true rfl) ?_
  exact hret _ _ _ _ (gl [q7], (fun _ _ => 0), (fun _ _ => 0)) (w) dX10_init_17
abbrev rm_X6_init : Room := { frames := 2, cells := 3, slots := 44, locals := 40 }
set_option maxRecDepth 100000 in
set_option maxHeartbeats 4000000 in
theorem k_X6_init (l : Launch) (D : va_G) (cI cZ cK : ClassId) (a0 b1 : Nat) : In l D cI cZ cK yX6_init cX6_init 2 rm_X6_init 3 44 [.ref a0, .ref b1] [(a0, .inr (6, [.null, .null, .null, .int 0, .int 0, .int 0, .int 0, .int 0]))] (fun g => [((g.1 0), .inr (3, [.ref (g.1 1), .int 0])), ((g.1 1), .inl (cI, 36, .inl zr)), ((g.1 2), .inr (7, [.int 2, .int 0, .int 0, .int 99, .int 60, .int 0])), (a0, .inr (6, [.ref b1, .ref (g.1 2), .ref (g.1 0), .int 0, .int 0, .int 0, .int 0, .int 0]))]) := by
  refine in_of (by decide) rfl (Nat.le_of_ble_eq_true rfl) ?_
  intro p e s m args below meth c Q A ls hx hb hml hown hin2 hk hA w hret hl
  have hl : lv_has ls 2 [(0, .ref a0), (1, .ref b1)] := hl
  refine lv_aload_n hx hb dX6_init_0 rfl (lv_at hl 0 rfl) ?_
  refine W.objInit hx hb hown (oi_X6 hk.2.1 args) (oi_i hk.2.1 args) (oi_c hk.2.1 args) rfl (by rw [hml]; exact hl.1) rfl dX6_init_1 (Nat.le_of_ble_eq_true rfl) (Nat.le_of_ble_eq_true rfl) ?_
  refine W.eq (g2 := F0 m 4 ls []) rfl ?_
  refine lv_aload_n hx hb dX6_init_4 rfl (lv_at hl 0 rfl) ?_
  refine nn_X6_9 hx hb hown hk w hA (Nat.le_of_ble_eq_true rfl) (Nat.le_of_ble_eq_true rfl) dX6_init_5 (fun q5 H w => ?_)
  have w : wd D A s.heap H _ [(a0, .inr (6, [.null, .null, .null, .int 0, .int 0, .int 0, .int 0, .int 0])), (q5, .inr (7, [.int 0, .int 0, .int 0, .int 0, .int 0, .int 0]))] := w
  refine W.widen (k := 1) (n := 6) (Nat.le_of_ble_eq_true rfl) (Nat.le_of_ble_eq_true rfl) ?_
  refine lv_dup hx hb dX6_init_8 rfl ?_
  refine cIV (rest := [.ref q5, .ref a0]) (wr := [(a0, .inr (6, [.null, .null, .null, .int 0, .int 0, .int 0, .int 0, .int 0]))]) hx hb hml hown hk w hA (k_X7_init l D cI cZ cK q5) (me_X7_init hk.2.1) rfl (mi_X7_init hk.2.1) (ml_X6_11 hk.2.1) (pmn 2 [1, 0] rfl rfl (by decide)) hl.1 rfl rfl (Nat.le_of_ble_eq_true rfl) ⟨rfl, rfl, Nat.le_of_ble_eq_true rfl, Nat.le_of_ble_eq_true rfl, Nat.le_of_ble_eq_true rfl, Nat.le_of_ble_eq_true rfl⟩ dX6_init_9 (fun g9 H locs w => ?_)
  have w : wd D A s.heap H locs [(q5, .inr (7, [.int 2, .int 0, .int 0, .int 99, .int 60, .int 0])), (a0, .inr (6, [.null, .null, .null, .int 0, .int 0, .int 0, .int 0, .int 0]))] := w
  refine W.widen (k := 1) (n := 6) (Nat.le_of_ble_eq_true rfl) (Nat.le_of_ble_eq_true rfl) ?_
  refine pr_X6_12 (ws' := [(q5, .inr (7, [.int 2, .int 0, .int 0, .int 99, .int 60, .int 0])), (a0, .inr (6, [.null, .ref q5, .null, .int 0, .int 0, .int 0, .int 0, .int 0]))]) hx hb hown hk w 1 rfl (Nat.le_of_ble_eq_true rfl) rfl hin2 dX6_init_12 (fun H locs w => ?_)
  refine lv_aload_n hx hb dX6_init_15 rfl (lv_at hl 0 rfl) ?_
  refine nn_X6_18 hx hb hown hk w hA (Nat.le_of_ble_eq_true rfl) (Nat.le_of_ble_eq_true rfl) dX6_init_16 (fun q16 H w => ?_)
  have w : wd D A s.heap H _ [(q5, .inr (7, [.int 2, .int 0, .int 0, .int 99, .int 60, .int 0])), (a0, .inr (6, [.null, .ref q5, .null, .int 0, .int 0, .int 0, .int 0, .int 0])), (q16, .inr (3, [.null, .int 0]))] := w
  refine W.widen (k := 2) (n := 8) (Nat.le_of_ble_eq_true rfl) (Nat.le_of_ble_eq_true rfl) ?_
  refine lv_dup hx hb dX6_init_19 rfl ?_
  refine cIN (rest := [.ref q16, .ref a0]) (wr := [(q5, .inr (7, [.int 2, .int 0, .int 0, .int 99, .int 60, .int 0])), (a0, .inr (6, [.null, .ref q5, .null, .int 0, .int 0, .int 0, .int 0, .int 0]))]) hx hb hml hown hk w hA (k_X3_init l D cI cZ cK q16) (me_X3_init hk.2.1) rfl (mi_X3_init hk.2.1) (hk.2.2.1 (RX6, 20, yX3_init) (List.mem_of_getElem? (i := 13) rfl)) (pmn 3 [2, 0, 1] rfl rfl (by decide)) hl.1 rfl rfl (Nat.le_of_ble_eq_true rfl) ⟨rfl, rfl, Nat.le_of_ble_eq_true rfl, Nat.le_of_ble_eq_true rfl, Nat.le_of_ble_eq_true rfl, Nat.le_of_ble_eq_true rfl⟩ dX6_init_20 (fun g20 H locs w => ?_)
  have w : wd D A s.heap H locs [(q16, .inr (3, [.ref (g20.1 0), .int 0])), ((g20.1 0), .inl (cI, 36, .inl zr)), (q5, .inr (7, [.int 2, .int 0, .int 0, .int 99, .int 60, .int 0])), (a0, .inr (6, [.null, .ref q5, .null, .int 0, .int 0, .int 0, .int 0, .int 0]))] := w
  refine W.widen (k := 3) (n := 44) (Nat.le_of_ble_eq_true rfl) (Nat.le_of_ble_eq_true rfl) ?_
  refine pr_X6_21 (ws' := [(q16, .inr (3, [.ref (g20.1 0), .int 0])), ((g20.1 0), .inl (cI, 36, .inl zr)), (q5, .inr (7, [.int 2, .int 0, .int 0, .int 99, .int 60, .int 0])), (a0, .inr (6, [.null, .ref q5, .ref q16, .int 0, .int 0, .int 0, .int 0, .int 0]))]) hx hb hown hk w 3 rfl (Nat.le_of_ble_eq_true rfl) rfl hin2 dX6_init_23 (fun H locs w => ?_)
  refine lv_aload_n hx hb dX6_init_26 rfl (lv_at hl 0 rfl) ?_
  refine lv_aload_n hx hb dX6_init_27 rfl (lv_at hl 1 rfl) ?_
  refine pr_X6_25 (ws' := [(q16, .inr (3, [.ref (g20.1 0), .int 0])), ((g20.1 0), .inl (cI, 36, .inl zr)), (q5, .inr (7, [.int 2, .int 0, .int 0, .int 99, .int 60, .int 0])), (a0, .inr (6, [.ref b1, .ref q5, .ref q16, .int 0, .int 0, .int 0, .int 0, .int 0]))]) hx hb hown hk w 3 rfl (Nat.le_of_ble_eq_true rfl) rfl hin2 dX6_init_28 (fun H locs w => ?_)
  refine W.widen (k := 3) (n := 44) (Nat.le_of_ble_eq_true rfl) (Nat.le_of_ble_eq_true rfl) ?_
  exact hret _ _ _ _ (gl [q16, (g20.1 0), q5], (fun _ _ => 0), (fun _ _ => 0)) (w) dX6_init_31
abbrev rm_X1_init : Room := { frames := 2, cells := 8, slots := 619, locals := 32 }
set_option maxRecDepth 100000 in
set_option maxHeartbeats 4000000 in
theorem k_X1_init (l : Launch) (D : va_G) (cI cZ cK : ClassId) (a0 : Nat) : In l D cI cZ cK yX1_init cX1_init 1 rm_X1_init 8 619 [.ref a0] [(a0, .inr (1, [.null, .null, .null, .null, .null, .null, .null, .int 0, .int 0]))] (fun g => [(a0, .inr (1, [.ref (g.1 0), .ref (g.1 2), .ref (g.1 3), .ref (g.1 4), .ref (g.1 5), .ref (g.1 6), .ref (g.1 7), .int 0, .int 0])), ((g.1 0), .inr (3, [.ref (g.1 1), .int 0])), ((g.1 1), .inl (cI, 36, .inl zr)), ((g.1 2), .inl (cI, 36, .inl zr)), ((g.1 3), .inl (cI, 216, .inl zr)), ((g.1 4), .inl (cI, 216, .inl zr)), ((g.1 5), .inl (cI, 6, .inl zr)), ((g.1 6), .inl (cI, 6, .inl zr)), ((g.1 7), .inl (cI, 101, .inl zr))]) := by
  refine in_of (by decide) rfl (Nat.le_of_ble_eq_true rfl) ?_
  intro p e s m args below meth c Q A ls hx hb hml hown hin2 hk hA w hret hl
  have hl : lv_has ls 1 [(0, .ref a0)] := hl
  refine lv_aload_n hx hb dX1_init_0 rfl (lv_at hl 0 rfl) ?_
  refine W.objInit hx hb hown (oi_X1 hk.2.1 args) (oi_i hk.2.1 args) (oi_c hk.2.1 args) rfl (by rw [hml]; exact hl.1) rfl dX1_init_1 (Nat.le_of_ble_eq_true rfl) (Nat.le_of_ble_eq_true rfl) ?_
  refine W.eq (g2 := F0 m 4 ls []) rfl ?_
  refine lv_aload_n hx hb dX1_init_4 rfl (lv_at hl 0 rfl) ?_
  refine nn_X1_9 hx hb hown hk w hA (Nat.le_of_ble_eq_true rfl) (Nat.le_of_ble_eq_true rfl) dX1_init_5 (fun q5 H w => ?_)
  have w : wd D A s.heap H _ [(a0, .inr (1, [.null, .null, .null, .null, .null, .null, .null, .int 0, .int 0])), (q5, .inr (3, [.null, .int 0]))] := w
  refine W.widen (k := 1) (n := 2) (Nat.le_of_ble_eq_true rfl) (Nat.le_of_ble_eq_true rfl) ?_
  refine lv_dup hx hb dX1_init_8 rfl ?_
  refine cIN (rest := [.ref q5, .ref a0]) (wr := [(a0, .inr (1, [.null, .null, .null, .null, .null, .null, .null, .int 0, .int 0]))]) hx hb hml hown hk w hA (k_X3_init l D cI cZ cK q5) (me_X3_init hk.2.1) rfl (mi_X3_init hk.2.1) (hk.2.2.1 (RX1, 11, yX3_init) (List.mem_of_getElem? (i := 5) rfl)) (pmn 2 [1, 0] rfl rfl (by decide)) hl.1 rfl rfl (Nat.le_of_ble_eq_true rfl) ⟨rfl, rfl, Nat.le_of_ble_eq_true rfl, Nat.le_of_ble_eq_true rfl, Nat.le_of_ble_eq_true rfl, Nat.le_of_ble_eq_true rfl⟩ dX1_init_9 (fun g9 H locs w => ?_)
  have w : wd D A s.heap H locs [(q5, .inr (3, [.ref (g9.1 0), .int 0])), ((g9.1 0), .inl (cI, 36, .inl zr)), (a0, .inr (1, [.null, .null, .null, .null, .null, .null, .null, .int 0, .int 0]))] := w
  refine W.widen (k := 2) (n := 38) (Nat.le_of_ble_eq_true rfl) (Nat.le_of_ble_eq_true rfl) ?_
  refine pr_X1_12 (ws' := [(q5, .inr (3, [.ref (g9.1 0), .int 0])), ((g9.1 0), .inl (cI, 36, .inl zr)), (a0, .inr (1, [.ref q5, .null, .null, .null, .null, .null, .null, .int 0, .int 0]))]) hx hb hown hk w 2 rfl (Nat.le_of_ble_eq_true rfl) rfl hin2 dX1_init_12 (fun H locs w => ?_)
  refine lv_aload_n hx hb dX1_init_15 rfl (lv_at hl 0 rfl) ?_
  refine lv_bipush (v := 36) hx hb dX1_init_16 (by decide) ?_
  refine na_i hx hb hk w hA (by decide) rfl (Nat.le_of_ble_eq_true rfl) (Nat.le_of_ble_eq_true rfl) (Nat.le_of_ble_eq_true rfl) dX1_init_18 (fun q18 H w => ?_)
  have w : wd D A s.heap H _ [(q5, .inr (3, [.ref (g9.1 0), .int 0])), ((g9.1 0), .inl (cI, 36, .inl zr)), (a0, .inr (1, [.ref q5, .null, .null, .null, .null, .null, .null, .int 0, .int 0])), (q18, .inl (cI, 36, .inl zr))] := w
  refine W.widen (k := 3) (n := 74) (Nat.le_of_ble_eq_true rfl) (Nat.le_of_ble_eq_true rfl) ?_
  refine pr_X1_18 (ws' := [(q5, .inr (3, [.ref (g9.1 0), .int 0])), ((g9.1 0), .inl (cI, 36, .inl zr)), (a0, .inr (1, [.ref q5, .ref q18, .null, .null, .null, .null, .null, .int 0, .int 0])), (q18, .inl (cI, 36, .inl zr))]) hx hb hown hk w 2 rfl (Nat.le_of_ble_eq_true rfl) rfl hin2 dX1_init_20 (fun H locs w => ?_)
  refine lv_aload_n hx hb dX1_init_23 rfl (lv_at hl 0 rfl) ?_
  refine lv_sipush (v := 216) hx hb dX1_init_24 (by decide) ?_
  refine na_i hx hb hk w hA (by decide) rfl (Nat.le_of_ble_eq_true rfl) (Nat.le_of_ble_eq_true rfl) (Nat.le_of_ble_eq_true rfl) dX1_init_27 (fun q27 H w => ?_)
  have w : wd D A s.heap H _ [(q5, .inr (3, [.ref (g9.1 0), .int 0])), ((g9.1 0), .inl (cI, 36, .inl zr)), (a0, .inr (1, [.ref q5, .ref q18, .null, .null, .null, .null, .null, .int 0, .int 0])), (q18, .inl (cI, 36, .inl zr)), (q27, .inl (cI, 216, .inl zr))] := w
  refine W.widen (k := 4) (n := 290) (Nat.le_of_ble_eq_true rfl) (Nat.le_of_ble_eq_true rfl) ?_
  refine pr_X1_22 (ws' := [(q5, .inr (3, [.ref (g9.1 0), .int 0])), ((g9.1 0), .inl (cI, 36, .inl zr)), (a0, .inr (1, [.ref q5, .ref q18, .ref q27, .null, .null, .null, .null, .int 0, .int 0])), (q18, .inl (cI, 36, .inl zr)), (q27, .inl (cI, 216, .inl zr))]) hx hb hown hk w 2 rfl (Nat.le_of_ble_eq_true rfl) rfl hin2 dX1_init_29 (fun H locs w => ?_)
  refine lv_aload_n hx hb dX1_init_32 rfl (lv_at hl 0 rfl) ?_
  refine lv_sipush (v := 216) hx hb dX1_init_33 (by decide) ?_
  refine na_i hx hb hk w hA (by decide) rfl (Nat.le_of_ble_eq_true rfl) (Nat.le_of_ble_eq_true rfl) (Nat.le_of_ble_eq_true rfl) dX1_init_36 (fun q36 H w => ?_)
  have w : wd D A s.heap H _ [(q5, .inr (3, [.ref (g9.1 0), .int 0])), ((g9.1 0), .inl (cI, 36, .inl zr)), (a0, .inr (1, [.ref q5, .ref q18, .ref q27, .null, .null, .null, .null, .int 0, .int 0])), (q18, .inl (cI, 36, .inl zr)), (q27, .inl (cI, 216, .inl zr)), (q36, .inl (cI, 216, .inl zr))] := w
  refine W.widen (k := 5) (n := 506) (Nat.le_of_ble_eq_true rfl) (Nat.le_of_ble_eq_true rfl) ?_
  refine pr_X1_25 (ws' := [(q5, .inr (3, [.ref (g9.1 0), .int 0])), ((g9.1 0), .inl (cI, 36, .inl zr)), (a0, .inr (1, [.ref q5, .ref q18, .ref q27, .ref q36, .null, .null, .null, .int 0, .int 0])), (q18, .inl (cI, 36, .inl zr)), (q27, .inl (cI, 216, .inl zr)), (q36, .inl (cI, 216, .inl zr))]) hx hb hown hk w 2 rfl (Nat.le_of_ble_eq_true rfl) rfl hin2 dX1_init_38 (fun H locs w => ?_)
  refine lv_aload_n hx hb dX1_init_41 rfl (lv_at hl 0 rfl) ?_
  refine lv_bipush (v := 6) hx hb dX1_init_42 (by decide) ?_
  refine na_i hx hb hk w hA (by decide) rfl (Nat.le_of_ble_eq_true rfl) (Nat.le_of_ble_eq_true rfl) (Nat.le_of_ble_eq_true rfl) dX1_init_44 (fun q44 H w => ?_)
  have w : wd D A s.heap H _ [(q5, .inr (3, [.ref (g9.1 0), .int 0])), ((g9.1 0), .inl (cI, 36, .inl zr)), (a0, .inr (1, [.ref q5, .ref q18, .ref q27, .ref q36, .null, .null, .null, .int 0, .int 0])), (q18, .inl (cI, 36, .inl zr)), (q27, .inl (cI, 216, .inl zr)), (q36, .inl (cI, 216, .inl zr)), (q44, .inl (cI, 6, .inl zr))] := w
  refine W.widen (k := 6) (n := 512) (Nat.le_of_ble_eq_true rfl) (Nat.le_of_ble_eq_true rfl) ?_
  refine pr_X1_28 (ws' := [(q5, .inr (3, [.ref (g9.1 0), .int 0])), ((g9.1 0), .inl (cI, 36, .inl zr)), (a0, .inr (1, [.ref q5, .ref q18, .ref q27, .ref q36, .ref q44, .null, .null, .int 0, .int 0])), (q18, .inl (cI, 36, .inl zr)), (q27, .inl (cI, 216, .inl zr)), (q36, .inl (cI, 216, .inl zr)), (q44, .inl (cI, 6, .inl zr))]) hx hb hown hk w 2 rfl (Nat.le_of_ble_eq_true rfl) rfl hin2 dX1_init_46 (fun H locs w => ?_)
  refine lv_aload_n hx hb dX1_init_49 rfl (lv_at hl 0 rfl) ?_
  refine lv_bipush (v := 6) hx hb dX1_init_50 (by decide) ?_
  refine na_i hx hb hk w hA (by decide) rfl (Nat.le_of_ble_eq_true rfl) (Nat.le_of_ble_eq_true rfl) (Nat.le_of_ble_eq_true rfl) dX1_init_52 (fun q52 H w => ?_)
  have w : wd D A s.heap H _ [(q5, .inr (3, [.ref (g9.1 0), .int 0])), ((g9.1 0), .inl (cI, 36, .inl zr)), (a0, .inr (1, [.ref q5, .ref q18, .ref q27, .ref q36, .ref q44, .null, .null, .int 0, .int 0])), (q18, .inl (cI, 36, .inl zr)), (q27, .inl (cI, 216, .inl zr)), (q36, .inl (cI, 216, .inl zr)), (q44, .inl (cI, 6, .inl zr)), (q52, .inl (cI, 6, .inl zr))] := w
  refine W.widen (k := 7) (n := 518) (Nat.le_of_ble_eq_true rfl) (Nat.le_of_ble_eq_true rfl) ?_
  refine pr_X1_31 (ws' := [(q5, .inr (3, [.ref (g9.1 0), .int 0])), ((g9.1 0), .inl (cI, 36, .inl zr)), (a0, .inr (1, [.ref q5, .ref q18, .ref q27, .ref q36, .ref q44, .ref q52, .null, .int 0, .int 0])), (q18, .inl (cI, 36, .inl zr)), (q27, .inl (cI, 216, .inl zr)), (q36, .inl (cI, 216, .inl zr)), (q44, .inl (cI, 6, .inl zr)), (q52, .inl (cI, 6, .inl zr))]) hx hb hown hk w 2 rfl (Nat.le_of_ble_eq_true rfl) rfl hin2 dX1_init_54 (fun H locs w => ?_)
  refine lv_aload_n hx hb dX1_init_57 rfl (lv_at hl 0 rfl) ?_
  refine lv_bipush (v := 101) hx hb dX1_init_58 (by decide) ?_
  refine na_i hx hb hk w hA (by decide) rfl (Nat.le_of_ble_eq_true rfl) (Nat.le_of_ble_eq_true rfl) (Nat.le_of_ble_eq_true rfl) dX1_init_60 (fun q60 H w => ?_)
  have w : wd D A s.heap H _ [(q5, .inr (3, [.ref (g9.1 0), .int 0])), ((g9.1 0), .inl (cI, 36, .inl zr)), (a0, .inr (1, [.ref q5, .ref q18, .ref q27, .ref q36, .ref q44, .ref q52, .null, .int 0, .int 0])), (q18, .inl (cI, 36, .inl zr)), (q27, .inl (cI, 216, .inl zr)), (q36, .inl (cI, 216, .inl zr)), (q44, .inl (cI, 6, .inl zr)), (q52, .inl (cI, 6, .inl zr)), (q60, .inl (cI, 101, .inl zr))] := w
  refine W.widen (k := 8) (n := 619) (Nat.le_of_ble_eq_true rfl) (Nat.le_of_ble_eq_true rfl) ?_
  refine pr_X1_34 (ws' := [(q5, .inr (3, [.ref (g9.1 0), .int 0])), ((g9.1 0), .inl (cI, 36, .inl zr)), (a0, .inr (1, [.ref q5, .ref q18, .ref q27, .ref q36, .ref q44, .ref q52, .ref q60, .int 0, .int 0])), (q18, .inl (cI, 36, .inl zr)), (q27, .inl (cI, 216, .inl zr)), (q36, .inl (cI, 216, .inl zr)), (q44, .inl (cI, 6, .inl zr)), (q52, .inl (cI, 6, .inl zr)), (q60, .inl (cI, 101, .inl zr))]) hx hb hown hk w 2 rfl (Nat.le_of_ble_eq_true rfl) rfl hin2 dX1_init_62 (fun H locs w => ?_)
  refine W.widen (k := 8) (n := 619) (Nat.le_of_ble_eq_true rfl) (Nat.le_of_ble_eq_true rfl) ?_
  exact hret _ _ _ _ (gl [q5, (g9.1 0), q18, q27, q36, q44, q52, q60], (fun _ _ => 0), (fun _ _ => 0)) (w.perm (pmn 9 [2, 0, 1, 3, 4, 5, 6, 7, 8] rfl rfl (by decide))) dX1_init_65
abbrev rm_X12_init : Room := { frames := 1, cells := 11, slots := 7060, locals := 21 }
set_option maxRecDepth 100000 in
set_option maxHeartbeats 4000000 in
theorem k_X12_init (l : Launch) (D : va_G) (cI cZ cK : ClassId) (a0 : Nat) : In l D cI cZ cK yX12_init cX12_init 1 rm_X12_init 11 7060 [.ref a0] [(a0, .inr (12, [.int 0, .int 0, .int 0, .int 0, .int 0, .int 0, .null, .int 0, .int 0, .null, .null, .null, .int 0, .null, .int 0, .int 0, .int 0, .int 0, .int 0, .int 0, .int 0, .int 0, .int 0, .int 0, .null, .int 0, .int 0, .null, .null, .int 0, .null, .null, .null]))] (fun g => [(a0, .inr (12, [.int 2, .int 0, .int 0, .int 99, .int 60, .int 0, .ref (g.1 0), .int 0, .int 0, .ref (g.1 1), .ref (g.1 2), .ref (g.1 3), .int 0, .ref (g.1 4), .int 0, .int 0, .int 0, .int 0, .int 0, .int 0, .int 0, .int 0, .int 0, .int 0, .ref (g.1 5), .int 0, .int 0, .ref (g.1 6), .ref (g.1 7), .int 0, .ref (g.1 8), .ref (g.1 9), .ref (g.1 10)])), ((g.1 0), .inl (cI, 622, .inl row0)), ((g.1 1), .inl (cI, 4976, .inl zr)), ((g.1 2), .inl (cZ, 2, .inl zr)), ((g.1 3), .inl (cI, 1244, .inl zr)), ((g.1 4), .inl (cI, 120, .inl zr)), ((g.1 5), .inl (cI, 36, .inl zr)), ((g.1 6), .inl (cI, 6, .inl zr)), ((g.1 7), .inl (cI, 36, .inl zr)), ((g.1 8), .inl (cI, 6, .inl zr)), ((g.1 9), .inl (cI, 6, .inl zr)), ((g.1 10), .inl (cI, 6, .inl zr))]) := by
  refine in_of (by decide) rfl (Nat.le_of_ble_eq_true rfl) ?_
  intro p e s m args below meth c Q A ls hx hb hml hown hin2 hk hA w hret hl
  have hl : lv_has ls 1 [(0, .ref a0)] := hl
  refine lv_aload_n hx hb dX12_init_0 rfl (lv_at hl 0 rfl) ?_
  refine W.objInit hx hb hown (oi_X12 hk.2.1 args) (oi_i hk.2.1 args) (oi_c hk.2.1 args) rfl (by rw [hml]; exact hl.1) rfl dX12_init_1 (Nat.le_of_ble_eq_true rfl) (Nat.le_of_ble_eq_true rfl) ?_
  refine W.eq (g2 := F0 m 4 ls []) rfl ?_
  refine lv_aload_n hx hb dX12_init_4 rfl (lv_at hl 0 rfl) ?_
  refine lv_iconst (v := 2) hx hb dX12_init_5 (by decide) ?_
  refine pf_X12_7 (ws' := [(a0, .inr (12, [.int 2, .int 0, .int 0, .int 0, .int 0, .int 0, .null, .int 0, .int 0, .null, .null, .null, .int 0, .null, .int 0, .int 0, .int 0, .int 0, .int 0, .int 0, .int 0, .int 0, .int 0, .int 0, .null, .int 0, .int 0, .null, .null, .int 0, .null, .null, .null]))]) hx hb hown hk w 0 rfl (Nat.le_of_ble_eq_true rfl) rfl dX12_init_6 (fun H locs w => ?_)
  refine lv_aload_n hx hb dX12_init_9 rfl (lv_at hl 0 rfl) ?_
  refine lv_bipush (v := 99) hx hb dX12_init_10 (by decide) ?_
  refine pf_X12_13 (ws' := [(a0, .inr (12, [.int 2, .int 0, .int 0, .int 99, .int 0, .int 0, .null, .int 0, .int 0, .null, .null, .null, .int 0, .null, .int 0, .int 0, .int 0, .int 0, .int 0, .int 0, .int 0, .int 0, .int 0, .int 0, .null, .int 0, .int 0, .null, .null, .int 0, .null, .null, .null]))]) hx hb hown hk w 0 rfl (Nat.le_of_ble_eq_true rfl) rfl dX12_init_12 (fun H locs w => ?_)
  refine lv_aload_n hx hb dX12_init_15 rfl (lv_at hl 0 rfl) ?_
  refine lv_bipush (v := 60) hx hb dX12_init_16 (by decide) ?_
  refine pf_X12_16 (ws' := [(a0, .inr (12, [.int 2, .int 0, .int 0, .int 99, .int 60, .int 0, .null, .int 0, .int 0, .null, .null, .null, .int 0, .null, .int 0, .int 0, .int 0, .int 0, .int 0, .int 0, .int 0, .int 0, .int 0, .int 0, .null, .int 0, .int 0, .null, .null, .int 0, .null, .null, .null]))]) hx hb hown hk w 0 rfl (Nat.le_of_ble_eq_true rfl) rfl dX12_init_18 (fun H locs w => ?_)
  refine lv_aload_n hx hb dX12_init_21 rfl (lv_at hl 0 rfl) ?_
  refine lv_sipush (v := 622) hx hb dX12_init_22 (by decide) ?_
  refine na_i hx hb hk w hA (by decide) rfl (Nat.le_of_ble_eq_true rfl) (Nat.le_of_ble_eq_true rfl) (Nat.le_of_ble_eq_true rfl) dX12_init_25 (fun q25 H w => ?_)
  have w : wd D A s.heap H _ [(a0, .inr (12, [.int 2, .int 0, .int 0, .int 99, .int 60, .int 0, .null, .int 0, .int 0, .null, .null, .null, .int 0, .null, .int 0, .int 0, .int 0, .int 0, .int 0, .int 0, .int 0, .int 0, .int 0, .int 0, .null, .int 0, .int 0, .null, .null, .int 0, .null, .null, .null])), (q25, .inl (cI, 622, .inl zr))] := w
  refine W.widen (k := 1) (n := 622) (Nat.le_of_ble_eq_true rfl) (Nat.le_of_ble_eq_true rfl) ?_
  refine pr_X12_19 (ws' := [(a0, .inr (12, [.int 2, .int 0, .int 0, .int 99, .int 60, .int 0, .ref q25, .int 0, .int 0, .null, .null, .null, .int 0, .null, .int 0, .int 0, .int 0, .int 0, .int 0, .int 0, .int 0, .int 0, .int 0, .int 0, .null, .int 0, .int 0, .null, .null, .int 0, .null, .null, .null])), (q25, .inl (cI, 622, .inl zr))]) hx hb hown hk w 0 rfl (Nat.le_of_ble_eq_true rfl) rfl hin2 dX12_init_27 (fun H locs w => ?_)
  refine lv_aload_n hx hb dX12_init_30 rfl (lv_at hl 0 rfl) ?_
  refine lv_sipush (v := 4976) hx hb dX12_init_31 (by decide) ?_
  refine na_i hx hb hk w hA (by decide) rfl (Nat.le_of_ble_eq_true rfl) (Nat.le_of_ble_eq_true rfl) (Nat.le_of_ble_eq_true rfl) dX12_init_34 (fun q34 H w => ?_)
  have w : wd D A s.heap H _ [(a0, .inr (12, [.int 2, .int 0, .int 0, .int 99, .int 60, .int 0, .ref q25, .int 0, .int 0, .null, .null, .null, .int 0, .null, .int 0, .int 0, .int 0, .int 0, .int 0, .int 0, .int 0, .int 0, .int 0, .int 0, .null, .int 0, .int 0, .null, .null, .int 0, .null, .null, .null])), (q25, .inl (cI, 622, .inl zr)), (q34, .inl (cI, 4976, .inl zr))] := w
  refine W.widen (k := 2) (n := 5598) (Nat.le_of_ble_eq_true rfl) (Nat.le_of_ble_eq_true rfl) ?_
  refine pr_X12_23 (ws' := [(a0, .inr (12, [.int 2, .int 0, .int 0, .int 99, .int 60, .int 0, .ref q25, .int 0, .int 0, .ref q34, .null, .null, .int 0, .null, .int 0, .int 0, .int 0, .int 0, .int 0, .int 0, .int 0, .int 0, .int 0, .int 0, .null, .int 0, .int 0, .null, .null, .int 0, .null, .null, .null])), (q25, .inl (cI, 622, .inl zr)), (q34, .inl (cI, 4976, .inl zr))]) hx hb hown hk w 0 rfl (Nat.le_of_ble_eq_true rfl) rfl hin2 dX12_init_36 (fun H locs w => ?_)
  refine lv_aload_n hx hb dX12_init_39 rfl (lv_at hl 0 rfl) ?_
  refine lv_iconst (v := 2) hx hb dX12_init_40 (by decide) ?_
  refine na_z hx hb hk w hA (by decide) rfl (Nat.le_of_ble_eq_true rfl) (Nat.le_of_ble_eq_true rfl) (Nat.le_of_ble_eq_true rfl) dX12_init_41 (fun q41 H w => ?_)
  have w : wd D A s.heap H _ [(a0, .inr (12, [.int 2, .int 0, .int 0, .int 99, .int 60, .int 0, .ref q25, .int 0, .int 0, .ref q34, .null, .null, .int 0, .null, .int 0, .int 0, .int 0, .int 0, .int 0, .int 0, .int 0, .int 0, .int 0, .int 0, .null, .int 0, .int 0, .null, .null, .int 0, .null, .null, .null])), (q25, .inl (cI, 622, .inl zr)), (q34, .inl (cI, 4976, .inl zr)), (q41, .inl (cZ, 2, .inl zr))] := w
  refine W.widen (k := 3) (n := 5600) (Nat.le_of_ble_eq_true rfl) (Nat.le_of_ble_eq_true rfl) ?_
  refine pr_X12_26 (ws' := [(a0, .inr (12, [.int 2, .int 0, .int 0, .int 99, .int 60, .int 0, .ref q25, .int 0, .int 0, .ref q34, .ref q41, .null, .int 0, .null, .int 0, .int 0, .int 0, .int 0, .int 0, .int 0, .int 0, .int 0, .int 0, .int 0, .null, .int 0, .int 0, .null, .null, .int 0, .null, .null, .null])), (q25, .inl (cI, 622, .inl zr)), (q34, .inl (cI, 4976, .inl zr)), (q41, .inl (cZ, 2, .inl zr))]) hx hb hown hk w 0 rfl (Nat.le_of_ble_eq_true rfl) rfl hin2 dX12_init_43 (fun H locs w => ?_)
  refine lv_aload_n hx hb dX12_init_46 rfl (lv_at hl 0 rfl) ?_
  refine lv_sipush (v := 1244) hx hb dX12_init_47 (by decide) ?_
  refine na_i hx hb hk w hA (by decide) rfl (Nat.le_of_ble_eq_true rfl) (Nat.le_of_ble_eq_true rfl) (Nat.le_of_ble_eq_true rfl) dX12_init_50 (fun q50 H w => ?_)
  have w : wd D A s.heap H _ [(a0, .inr (12, [.int 2, .int 0, .int 0, .int 99, .int 60, .int 0, .ref q25, .int 0, .int 0, .ref q34, .ref q41, .null, .int 0, .null, .int 0, .int 0, .int 0, .int 0, .int 0, .int 0, .int 0, .int 0, .int 0, .int 0, .null, .int 0, .int 0, .null, .null, .int 0, .null, .null, .null])), (q25, .inl (cI, 622, .inl zr)), (q34, .inl (cI, 4976, .inl zr)), (q41, .inl (cZ, 2, .inl zr)), (q50, .inl (cI, 1244, .inl zr))] := w
  refine W.widen (k := 4) (n := 6844) (Nat.le_of_ble_eq_true rfl) (Nat.le_of_ble_eq_true rfl) ?_
  refine pr_X12_30 (ws' := [(a0, .inr (12, [.int 2, .int 0, .int 0, .int 99, .int 60, .int 0, .ref q25, .int 0, .int 0, .ref q34, .ref q41, .ref q50, .int 0, .null, .int 0, .int 0, .int 0, .int 0, .int 0, .int 0, .int 0, .int 0, .int 0, .int 0, .null, .int 0, .int 0, .null, .null, .int 0, .null, .null, .null])), (q25, .inl (cI, 622, .inl zr)), (q34, .inl (cI, 4976, .inl zr)), (q41, .inl (cZ, 2, .inl zr)), (q50, .inl (cI, 1244, .inl zr))]) hx hb hown hk w 0 rfl (Nat.le_of_ble_eq_true rfl) rfl hin2 dX12_init_52 (fun H locs w => ?_)
  refine lv_aload_n hx hb dX12_init_55 rfl (lv_at hl 0 rfl) ?_
  refine lv_bipush (v := 120) hx hb dX12_init_56 (by decide) ?_
  refine na_i hx hb hk w hA (by decide) rfl (Nat.le_of_ble_eq_true rfl) (Nat.le_of_ble_eq_true rfl) (Nat.le_of_ble_eq_true rfl) dX12_init_58 (fun q58 H w => ?_)
  have w : wd D A s.heap H _ [(a0, .inr (12, [.int 2, .int 0, .int 0, .int 99, .int 60, .int 0, .ref q25, .int 0, .int 0, .ref q34, .ref q41, .ref q50, .int 0, .null, .int 0, .int 0, .int 0, .int 0, .int 0, .int 0, .int 0, .int 0, .int 0, .int 0, .null, .int 0, .int 0, .null, .null, .int 0, .null, .null, .null])), (q25, .inl (cI, 622, .inl zr)), (q34, .inl (cI, 4976, .inl zr)), (q41, .inl (cZ, 2, .inl zr)), (q50, .inl (cI, 1244, .inl zr)), (q58, .inl (cI, 120, .inl zr))] := w
  refine W.widen (k := 5) (n := 6964) (Nat.le_of_ble_eq_true rfl) (Nat.le_of_ble_eq_true rfl) ?_
  refine pr_X12_33 (ws' := [(a0, .inr (12, [.int 2, .int 0, .int 0, .int 99, .int 60, .int 0, .ref q25, .int 0, .int 0, .ref q34, .ref q41, .ref q50, .int 0, .ref q58, .int 0, .int 0, .int 0, .int 0, .int 0, .int 0, .int 0, .int 0, .int 0, .int 0, .null, .int 0, .int 0, .null, .null, .int 0, .null, .null, .null])), (q25, .inl (cI, 622, .inl zr)), (q34, .inl (cI, 4976, .inl zr)), (q41, .inl (cZ, 2, .inl zr)), (q50, .inl (cI, 1244, .inl zr)), (q58, .inl (cI, 120, .inl zr))]) hx hb hown hk w 0 rfl (Nat.le_of_ble_eq_true rfl) rfl hin2 dX12_init_60 (fun H locs w => ?_)
  refine lv_aload_n hx hb dX12_init_63 rfl (lv_at hl 0 rfl) ?_
  refine lv_bipush (v := 36) hx hb dX12_init_64 (by decide) ?_
  refine na_i hx hb hk w hA (by decide) rfl (Nat.le_of_ble_eq_true rfl) (Nat.le_of_ble_eq_true rfl) (Nat.le_of_ble_eq_true rfl) dX12_init_66 (fun q66 H w => ?_)
  have w : wd D A s.heap H _ [(a0, .inr (12, [.int 2, .int 0, .int 0, .int 99, .int 60, .int 0, .ref q25, .int 0, .int 0, .ref q34, .ref q41, .ref q50, .int 0, .ref q58, .int 0, .int 0, .int 0, .int 0, .int 0, .int 0, .int 0, .int 0, .int 0, .int 0, .null, .int 0, .int 0, .null, .null, .int 0, .null, .null, .null])), (q25, .inl (cI, 622, .inl zr)), (q34, .inl (cI, 4976, .inl zr)), (q41, .inl (cZ, 2, .inl zr)), (q50, .inl (cI, 1244, .inl zr)), (q58, .inl (cI, 120, .inl zr)), (q66, .inl (cI, 36, .inl zr))] := w
  refine W.widen (k := 6) (n := 7000) (Nat.le_of_ble_eq_true rfl) (Nat.le_of_ble_eq_true rfl) ?_
  refine pr_X12_36 (ws' := [(a0, .inr (12, [.int 2, .int 0, .int 0, .int 99, .int 60, .int 0, .ref q25, .int 0, .int 0, .ref q34, .ref q41, .ref q50, .int 0, .ref q58, .int 0, .int 0, .int 0, .int 0, .int 0, .int 0, .int 0, .int 0, .int 0, .int 0, .ref q66, .int 0, .int 0, .null, .null, .int 0, .null, .null, .null])), (q25, .inl (cI, 622, .inl zr)), (q34, .inl (cI, 4976, .inl zr)), (q41, .inl (cZ, 2, .inl zr)), (q50, .inl (cI, 1244, .inl zr)), (q58, .inl (cI, 120, .inl zr)), (q66, .inl (cI, 36, .inl zr))]) hx hb hown hk w 0 rfl (Nat.le_of_ble_eq_true rfl) rfl hin2 dX12_init_68 (fun H locs w => ?_)
  refine lv_aload_n hx hb dX12_init_71 rfl (lv_at hl 0 rfl) ?_
  refine lv_bipush (v := 6) hx hb dX12_init_72 (by decide) ?_
  refine na_i hx hb hk w hA (by decide) rfl (Nat.le_of_ble_eq_true rfl) (Nat.le_of_ble_eq_true rfl) (Nat.le_of_ble_eq_true rfl) dX12_init_74 (fun q74 H w => ?_)
  have w : wd D A s.heap H _ [(a0, .inr (12, [.int 2, .int 0, .int 0, .int 99, .int 60, .int 0, .ref q25, .int 0, .int 0, .ref q34, .ref q41, .ref q50, .int 0, .ref q58, .int 0, .int 0, .int 0, .int 0, .int 0, .int 0, .int 0, .int 0, .int 0, .int 0, .ref q66, .int 0, .int 0, .null, .null, .int 0, .null, .null, .null])), (q25, .inl (cI, 622, .inl zr)), (q34, .inl (cI, 4976, .inl zr)), (q41, .inl (cZ, 2, .inl zr)), (q50, .inl (cI, 1244, .inl zr)), (q58, .inl (cI, 120, .inl zr)), (q66, .inl (cI, 36, .inl zr)), (q74, .inl (cI, 6, .inl zr))] := w
  refine W.widen (k := 7) (n := 7006) (Nat.le_of_ble_eq_true rfl) (Nat.le_of_ble_eq_true rfl) ?_
  refine pr_X12_39 (ws' := [(a0, .inr (12, [.int 2, .int 0, .int 0, .int 99, .int 60, .int 0, .ref q25, .int 0, .int 0, .ref q34, .ref q41, .ref q50, .int 0, .ref q58, .int 0, .int 0, .int 0, .int 0, .int 0, .int 0, .int 0, .int 0, .int 0, .int 0, .ref q66, .int 0, .int 0, .ref q74, .null, .int 0, .null, .null, .null])), (q25, .inl (cI, 622, .inl zr)), (q34, .inl (cI, 4976, .inl zr)), (q41, .inl (cZ, 2, .inl zr)), (q50, .inl (cI, 1244, .inl zr)), (q58, .inl (cI, 120, .inl zr)), (q66, .inl (cI, 36, .inl zr)), (q74, .inl (cI, 6, .inl zr))]) hx hb hown hk w 0 rfl (Nat.le_of_ble_eq_true rfl) rfl hin2 dX12_init_76 (fun H locs w => ?_)
  refine lv_aload_n hx hb dX12_init_79 rfl (lv_at hl 0 rfl) ?_
  refine lv_bipush (v := 36) hx hb dX12_init_80 (by decide) ?_
  refine na_i hx hb hk w hA (by decide) rfl (Nat.le_of_ble_eq_true rfl) (Nat.le_of_ble_eq_true rfl) (Nat.le_of_ble_eq_true rfl) dX12_init_82 (fun q82 H w => ?_)
  have w : wd D A s.heap H _ [(a0, .inr (12, [.int 2, .int 0, .int 0, .int 99, .int 60, .int 0, .ref q25, .int 0, .int 0, .ref q34, .ref q41, .ref q50, .int 0, .ref q58, .int 0, .int 0, .int 0, .int 0, .int 0, .int 0, .int 0, .int 0, .int 0, .int 0, .ref q66, .int 0, .int 0, .ref q74, .null, .int 0, .null, .null, .null])), (q25, .inl (cI, 622, .inl zr)), (q34, .inl (cI, 4976, .inl zr)), (q41, .inl (cZ, 2, .inl zr)), (q50, .inl (cI, 1244, .inl zr)), (q58, .inl (cI, 120, .inl zr)), (q66, .inl (cI, 36, .inl zr)), (q74, .inl (cI, 6, .inl zr)), (q82, .inl (cI, 36, .inl zr))] := w
  refine W.widen (k := 8) (n := 7042) (Nat.le_of_ble_eq_true rfl) (Nat.le_of_ble_eq_true rfl) ?_
  refine pr_X12_42 (ws' := [(a0, .inr (12, [.int 2, .int 0, .int 0, .int 99, .int 60, .int 0, .ref q25, .int 0, .int 0, .ref q34, .ref q41, .ref q50, .int 0, .ref q58, .int 0, .int 0, .int 0, .int 0, .int 0, .int 0, .int 0, .int 0, .int 0, .int 0, .ref q66, .int 0, .int 0, .ref q74, .ref q82, .int 0, .null, .null, .null])), (q25, .inl (cI, 622, .inl zr)), (q34, .inl (cI, 4976, .inl zr)), (q41, .inl (cZ, 2, .inl zr)), (q50, .inl (cI, 1244, .inl zr)), (q58, .inl (cI, 120, .inl zr)), (q66, .inl (cI, 36, .inl zr)), (q74, .inl (cI, 6, .inl zr)), (q82, .inl (cI, 36, .inl zr))]) hx hb hown hk w 0 rfl (Nat.le_of_ble_eq_true rfl) rfl hin2 dX12_init_84 (fun H locs w => ?_)
  refine lv_aload_n hx hb dX12_init_87 rfl (lv_at hl 0 rfl) ?_
  refine lv_bipush (v := 6) hx hb dX12_init_88 (by decide) ?_
  refine na_i hx hb hk w hA (by decide) rfl (Nat.le_of_ble_eq_true rfl) (Nat.le_of_ble_eq_true rfl) (Nat.le_of_ble_eq_true rfl) dX12_init_90 (fun q90 H w => ?_)
  have w : wd D A s.heap H _ [(a0, .inr (12, [.int 2, .int 0, .int 0, .int 99, .int 60, .int 0, .ref q25, .int 0, .int 0, .ref q34, .ref q41, .ref q50, .int 0, .ref q58, .int 0, .int 0, .int 0, .int 0, .int 0, .int 0, .int 0, .int 0, .int 0, .int 0, .ref q66, .int 0, .int 0, .ref q74, .ref q82, .int 0, .null, .null, .null])), (q25, .inl (cI, 622, .inl zr)), (q34, .inl (cI, 4976, .inl zr)), (q41, .inl (cZ, 2, .inl zr)), (q50, .inl (cI, 1244, .inl zr)), (q58, .inl (cI, 120, .inl zr)), (q66, .inl (cI, 36, .inl zr)), (q74, .inl (cI, 6, .inl zr)), (q82, .inl (cI, 36, .inl zr)), (q90, .inl (cI, 6, .inl zr))] := w
  refine W.widen (k := 9) (n := 7048) (Nat.le_of_ble_eq_true rfl) (Nat.le_of_ble_eq_true rfl) ?_
  refine pr_X12_45 (ws' := [(a0, .inr (12, [.int 2, .int 0, .int 0, .int 99, .int 60, .int 0, .ref q25, .int 0, .int 0, .ref q34, .ref q41, .ref q50, .int 0, .ref q58, .int 0, .int 0, .int 0, .int 0, .int 0, .int 0, .int 0, .int 0, .int 0, .int 0, .ref q66, .int 0, .int 0, .ref q74, .ref q82, .int 0, .ref q90, .null, .null])), (q25, .inl (cI, 622, .inl zr)), (q34, .inl (cI, 4976, .inl zr)), (q41, .inl (cZ, 2, .inl zr)), (q50, .inl (cI, 1244, .inl zr)), (q58, .inl (cI, 120, .inl zr)), (q66, .inl (cI, 36, .inl zr)), (q74, .inl (cI, 6, .inl zr)), (q82, .inl (cI, 36, .inl zr)), (q90, .inl (cI, 6, .inl zr))]) hx hb hown hk w 0 rfl (Nat.le_of_ble_eq_true rfl) rfl hin2 dX12_init_92 (fun H locs w => ?_)
  refine lv_aload_n hx hb dX12_init_95 rfl (lv_at hl 0 rfl) ?_
  refine lv_bipush (v := 6) hx hb dX12_init_96 (by decide) ?_
  refine na_i hx hb hk w hA (by decide) rfl (Nat.le_of_ble_eq_true rfl) (Nat.le_of_ble_eq_true rfl) (Nat.le_of_ble_eq_true rfl) dX12_init_98 (fun q98 H w => ?_)
  have w : wd D A s.heap H _ [(a0, .inr (12, [.int 2, .int 0, .int 0, .int 99, .int 60, .int 0, .ref q25, .int 0, .int 0, .ref q34, .ref q41, .ref q50, .int 0, .ref q58, .int 0, .int 0, .int 0, .int 0, .int 0, .int 0, .int 0, .int 0, .int 0, .int 0, .ref q66, .int 0, .int 0, .ref q74, .ref q82, .int 0, .ref q90, .null, .null])), (q25, .inl (cI, 622, .inl zr)), (q34, .inl (cI, 4976, .inl zr)), (q41, .inl (cZ, 2, .inl zr)), (q50, .inl (cI, 1244, .inl zr)), (q58, .inl (cI, 120, .inl zr)), (q66, .inl (cI, 36, .inl zr)), (q74, .inl (cI, 6, .inl zr)), (q82, .inl (cI, 36, .inl zr)), (q90, .inl (cI, 6, .inl zr)), (q98, .inl (cI, 6, .inl zr))] := w
  refine W.widen (k := 10) (n := 7054) (Nat.le_of_ble_eq_true rfl) (Nat.le_of_ble_eq_true rfl) ?_
  refine pr_X12_48 (ws' := [(a0, .inr (12, [.int 2, .int 0, .int 0, .int 99, .int 60, .int 0, .ref q25, .int 0, .int 0, .ref q34, .ref q41, .ref q50, .int 0, .ref q58, .int 0, .int 0, .int 0, .int 0, .int 0, .int 0, .int 0, .int 0, .int 0, .int 0, .ref q66, .int 0, .int 0, .ref q74, .ref q82, .int 0, .ref q90, .ref q98, .null])), (q25, .inl (cI, 622, .inl zr)), (q34, .inl (cI, 4976, .inl zr)), (q41, .inl (cZ, 2, .inl zr)), (q50, .inl (cI, 1244, .inl zr)), (q58, .inl (cI, 120, .inl zr)), (q66, .inl (cI, 36, .inl zr)), (q74, .inl (cI, 6, .inl zr)), (q82, .inl (cI, 36, .inl zr)), (q90, .inl (cI, 6, .inl zr)), (q98, .inl (cI, 6, .inl zr))]) hx hb hown hk w 0 rfl (Nat.le_of_ble_eq_true rfl) rfl hin2 dX12_init_100 (fun H locs w => ?_)
  refine lv_aload_n hx hb dX12_init_103 rfl (lv_at hl 0 rfl) ?_
  refine lv_bipush (v := 6) hx hb dX12_init_104 (by decide) ?_
  refine na_i hx hb hk w hA (by decide) rfl (Nat.le_of_ble_eq_true rfl) (Nat.le_of_ble_eq_true rfl) (Nat.le_of_ble_eq_true rfl) dX12_init_106 (fun q106 H w => ?_)
  have w : wd D A s.heap H _ [(a0, .inr (12, [.int 2, .int 0, .int 0, .int 99, .int 60, .int 0, .ref q25, .int 0, .int 0, .ref q34, .ref q41, .ref q50, .int 0, .ref q58, .int 0, .int 0, .int 0, .int 0, .int 0, .int 0, .int 0, .int 0, .int 0, .int 0, .ref q66, .int 0, .int 0, .ref q74, .ref q82, .int 0, .ref q90, .ref q98, .null])), (q25, .inl (cI, 622, .inl zr)), (q34, .inl (cI, 4976, .inl zr)), (q41, .inl (cZ, 2, .inl zr)), (q50, .inl (cI, 1244, .inl zr)), (q58, .inl (cI, 120, .inl zr)), (q66, .inl (cI, 36, .inl zr)), (q74, .inl (cI, 6, .inl zr)), (q82, .inl (cI, 36, .inl zr)), (q90, .inl (cI, 6, .inl zr)), (q98, .inl (cI, 6, .inl zr)), (q106, .inl (cI, 6, .inl zr))] := w
  refine W.widen (k := 11) (n := 7060) (Nat.le_of_ble_eq_true rfl) (Nat.le_of_ble_eq_true rfl) ?_
  refine pr_X12_51 (ws' := [(a0, .inr (12, [.int 2, .int 0, .int 0, .int 99, .int 60, .int 0, .ref q25, .int 0, .int 0, .ref q34, .ref q41, .ref q50, .int 0, .ref q58, .int 0, .int 0, .int 0, .int 0, .int 0, .int 0, .int 0, .int 0, .int 0, .int 0, .ref q66, .int 0, .int 0, .ref q74, .ref q82, .int 0, .ref q90, .ref q98, .ref q106])), (q25, .inl (cI, 622, .inl zr)), (q34, .inl (cI, 4976, .inl zr)), (q41, .inl (cZ, 2, .inl zr)), (q50, .inl (cI, 1244, .inl zr)), (q58, .inl (cI, 120, .inl zr)), (q66, .inl (cI, 36, .inl zr)), (q74, .inl (cI, 6, .inl zr)), (q82, .inl (cI, 36, .inl zr)), (q90, .inl (cI, 6, .inl zr)), (q98, .inl (cI, 6, .inl zr)), (q106, .inl (cI, 6, .inl zr))]) hx hb hown hk w 0 rfl (Nat.le_of_ble_eq_true rfl) rfl hin2 dX12_init_108 (fun H locs w => ?_)
  refine lv_aload_n hx hb dX12_init_111 rfl (lv_at hl 0 rfl) ?_
  refine gf_X12_19 hx hb hown hk w.1 0 rfl rfl dX12_init_112 ?_
  refine cMS (rest := []) (wr := [(a0, .inr (12, [.int 2, .int 0, .int 0, .int 99, .int 60, .int 0, .ref q25, .int 0, .int 0, .ref q34, .ref q41, .ref q50, .int 0, .ref q58, .int 0, .int 0, .int 0, .int 0, .int 0, .int 0, .int 0, .int 0, .int 0, .int 0, .ref q66, .int 0, .int 0, .ref q74, .ref q82, .int 0, .ref q90, .ref q98, .ref q106])), (q34, .inl (cI, 4976, .inl zr)), (q41, .inl (cZ, 2, .inl zr)), (q50, .inl (cI, 1244, .inl zr)), (q58, .inl (cI, 120, .inl zr)), (q66, .inl (cI, 36, .inl zr)), (q74, .inl (cI, 6, .inl zr)), (q82, .inl (cI, 36, .inl zr)), (q90, .inl (cI, 6, .inl zr)), (q98, .inl (cI, 6, .inl zr)), (q106, .inl (cI, 6, .inl zr))]) (ws' := [(a0, .inr (12, [.int 2, .int 0, .int 0, .int 99, .int 60, .int 0, .ref q25, .int 0, .int 0, .ref q34, .ref q41, .ref q50, .int 0, .ref q58, .int 0, .int 0, .int 0, .int 0, .int 0, .int 0, .int 0, .int 0, .int 0, .int 0, .ref q66, .int 0, .int 0, .ref q74, .ref q82, .int 0, .ref q90, .ref q98, .ref q106])), (q25, .inl (cI, 622, .inl row0)), (q34, .inl (cI, 4976, .inl zr)), (q41, .inl (cZ, 2, .inl zr)), (q50, .inl (cI, 1244, .inl zr)), (q58, .inl (cI, 120, .inl zr)), (q66, .inl (cI, 36, .inl zr)), (q74, .inl (cI, 6, .inl zr)), (q82, .inl (cI, 36, .inl zr)), (q90, .inl (cI, 6, .inl zr)), (q98, .inl (cI, 6, .inl zr)), (q106, .inl (cI, 6, .inl zr))]) hx hb hml hown hk w hA (k_X12_begins l D cI cZ cK 1000 q25 zr row0 begins_0) (me_X12_begins hk.2.1) (ms_X12_begins hk.2.1) (ml_X12_54 hk.2.1) (pmn 12 [1, 0, 2, 3, 4, 5, 6, 7, 8, 9, 10, 11] rfl rfl (by decide)) (pmn 12 [1, 0, 2, 3, 4, 5, 6, 7, 8, 9, 10, 11] rfl rfl (by decide)) hl.1 rfl rfl (Nat.le_of_ble_eq_true rfl) ⟨rfl, rfl, Nat.le_of_ble_eq_true rfl, Nat.le_of_ble_eq_true rfl, Nat.le_of_ble_eq_true rfl, Nat.le_of_ble_eq_true rfl⟩ dX12_init_115 (fun H locs w => ?_)
  refine W.eq (g2 := F0 m 118 ls []) rfl ?_
  refine W.widen (k := 11) (n := 7060) (Nat.le_of_ble_eq_true rfl) (Nat.le_of_ble_eq_true rfl) ?_
  exact hret _ _ _ _ (gl [q25, q34, q41, q50, q58, q66, q74, q82, q90, q98, q106], (fun _ _ => 0), (fun _ _ => 0)) (w) dX12_init_118
