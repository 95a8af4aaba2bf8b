def f_X3_restart : Option (Int32 × ar) := some (0, fun _ => 0)
abbrev rm_X3_restart : Room := { frames := 1, cells := 0, slots := 0, locals := 23 }
set_option maxRecDepth 100000 in
set_option maxHeartbeats 4000000 in
theorem k_X3_restart (l : Launch) (D : va_G) (cI cZ cK : ClassId) (a0 a1 : Nat) (lt : Int32) (dl : ar) (R : Int32 × ar) (h : f_X3_restart = some R) : Mu l D cI cZ cK yX3_restart cX3_restart 1 none rm_X3_restart [.ref a0] [(a0, .inr (3, [.ref a1, .int lt])), (a1, .inl (cI, 36, .inl dl))] none [(a0, .inr (3, [.ref a1, .int R.1])), (a1, .inl (cI, 36, .inl R.2))] := by
  refine mv_of (by decide) (Nat.le_of_ble_eq_true rfl) ?_
  intro p e s m args below meth c Q A ls hx hb hml hown hk hA w hret hl
  have hl : lv_has ls 1 [(0, .ref a0)] := hl
  obtain ⟨C0, hC0, h⟩ := sat_top h
  unfold f_X3_restart at h
  refine lv_aload_n hx hb dX3_restart_0 rfl (lv_at hl 0 rfl) ?_
  refine gf_X3_9 hx hb hown hk w.1 0 rfl rfl dX3_restart_1 ?_
  refine lv_iconst (v := 0) hx hb dX3_restart_4 (by decide) ?_
  refine cMS (rest := []) (wr := [(a0, .inr (3, [.ref a1, .int lt]))]) (ws' := [(a0, .inr (3, [.ref a1, .int lt])), (a1, .inl (cI, 36, .inl (fun _ => 0)))]) hx hb hml hown hk w hA (k_fill l D cI cZ cK a1 36 (Nat.le_of_ble_eq_true rfl) dl 0) (me_J7_fill_53178 hk.2.1) (ms_J7_fill_53178 hk.2.1) (ml_X3_15 hk.2.1) (pmn 2 [1, 0] rfl rfl (by decide)) (pmn 2 [1, 0] rfl rfl (by decide)) hl.1 rfl rfl (Nat.le_of_ble_eq_true rfl) ⟨rfl, rfl, Nat.le_of_ble_eq_true rfl, Nat.le_of_ble_eq_true rfl, Nat.zero_le _, Nat.zero_le _⟩ dX3_restart_5 (fun H locs w => ?_)
  refine W.eq (g2 := F0 m 8 ls []) rfl ?_
  refine lv_aload_n hx hb dX3_restart_8 rfl (lv_at hl 0 rfl) ?_
  refine lv_iconst (v := 0) hx hb dX3_restart_9 (by decide) ?_
  refine pf_X3_21 (ws' := [(a0, .inr (3, [.ref a1, .int 0])), (a1, .inl (cI, 36, .inl (fun _ => 0)))]) hx hb hown hk w 0 rfl (Nat.le_of_ble_eq_true rfl) rfl dX3_restart_10 (fun H locs w => ?_)
  have hR := hC0 _ (sat_some h)
  subst hR
  exact hret _ _ _ _ w dX3_restart_13
def f_X3_copyFrom (dl : ar) (odl : ar) (olt : Int32) : Option (Int32 × ar) := ck (cpo 0 0 36 36 36) (some (olt, va_cpy odl dl (0 : Int32).toNatClampNeg (0 : Int32).toNatClampNeg (36 : Int32).toNatClampNeg))
abbrev rm_X3_copyFrom : Room := { frames := 1, cells := 0, slots := 0, locals := 18 }
set_option maxRecDepth 100000 in
set_option maxHeartbeats 4000000 in
theorem k_X3_copyFrom (l : Launch) (D : va_G) (cI cZ cK : ClassId) (a0 a1 b0 a2 : Nat) (lt : Int32) (dl : ar) (olt : Int32) (odl : ar) (R : Int32 × ar) (h : f_X3_copyFrom dl odl olt = some R) : Mu l D cI cZ cK yX3_copyFrom cX3_copyFrom 2 none rm_X3_copyFrom [.ref a0, .ref b0] [(a0, .inr (3, [.ref a1, .int lt])), (a1, .inl (cI, 36, .inl dl)), (b0, .inr (3, [.ref a2, .int olt])), (a2, .inl (cI, 36, .inl odl))] none [(a0, .inr (3, [.ref a1, .int R.1])), (a1, .inl (cI, 36, .inl R.2)), (b0, .inr (3, [.ref a2, .int olt])), (a2, .inl (cI, 36, .inl odl))] := by
  refine mv_of (by decide) (Nat.le_of_ble_eq_true rfl) ?_
  intro p e s m args below meth c Q A ls hx hb hml hown hk hA w hret hl
  have hl : lv_has ls 2 [(0, .ref a0), (1, .ref b0)] := hl
  obtain ⟨C0, hC0, h⟩ := sat_top h
  unfold f_X3_copyFrom at h
  refine lv_aload_n hx hb dX3_copyFrom_0 rfl (lv_at hl 1 rfl) ?_
  refine gf_X3_9 hx hb hown hk w.1 2 rfl rfl dX3_copyFrom_1 ?_
  refine lv_iconst (v := 0) hx hb dX3_copyFrom_4 (by decide) ?_
  refine lv_aload_n hx hb dX3_copyFrom_5 rfl (lv_at hl 0 rfl) ?_
  refine gf_X3_9 hx hb hown hk w.1 0 rfl rfl dX3_copyFrom_6 ?_
  refine lv_iconst (v := 0) hx hb dX3_copyFrom_9 (by decide) ?_
  refine lv_bipush (v := 36) hx hb dX3_copyFrom_10 (by decide) ?_
  obtain ⟨hi, h⟩ := sat_cp h
  refine ac_X3_25 (ws' := [(a0, .inr (3, [.ref a1, .int lt])), (a1, .inl (cI, 36, .inl (va_cpy odl dl (0 : Int32).toNatClampNeg (0 : Int32).toNatClampNeg (36 : Int32).toNatClampNeg))), (b0, .inr (3, [.ref a2, .int olt])), (a2, .inl (cI, 36, .inl odl))]) hx hb hml hl.1 hown hk w 3 1 rfl rfl hi rfl ⟨Nat.le_of_ble_eq_true rfl, Nat.le_of_ble_eq_true rfl⟩ dX3_copyFrom_12 (fun H locs w => ?_)
  refine lv_aload_n hx hb dX3_copyFrom_15 rfl (lv_at hl 0 rfl) ?_
  refine lv_aload_n hx hb dX3_copyFrom_16 rfl (lv_at hl 1 rfl) ?_
  refine gf_X3_21 hx hb hown hk w.1 2 rfl rfl dX3_copyFrom_17 ?_
  refine pf_X3_21 (ws' := [(a0, .inr (3, [.ref a1, .int olt])), (a1, .inl (cI, 36, .inl (va_cpy odl dl (0 : Int32).toNatClampNeg (0 : Int32).toNatClampNeg (36 : Int32).toNatClampNeg))), (b0, .inr (3, [.ref a2, .int olt])), (a2, .inl (cI, 36, .inl odl))]) hx hb hown hk w 0 rfl (Nat.le_of_ble_eq_true rfl) rfl dX3_copyFrom_20 (fun H locs w => ?_)
  have hR := hC0 _ (sat_some h)
  subst hR
  exact hret _ _ _ _ w dX3_copyFrom_23
def f_X1_restart (dl : ar) (odl : ar) (olt : Int32) : Option (Int32 × Int32 × Int32 × ar × ar × ar × ar × ar) := Option.bind (f_X3_copyFrom dl odl olt) fun r_1 => some (0, 0, r_1.1, r_1.2, fun _ => 0, fun _ => 0, fun _ => 0, fun _ => 0)
abbrev rm_X1_restart : Room := { frames := 2, cells := 0, slots := 0, locals := 39 }
set_option maxRecDepth 100000 in
set_option maxHeartbeats 4000000 in
theorem k_X1_restart (l : Launch) (D : va_G) (cI cZ cK : ClassId) (a0 a1 a3 a4 a5 a6 a7 a8 a2 b0 a9 : Nat) (wz : Int32) (tm : Int32) (lt : Int32) (dl : ar) (hp : ar) (md : ar) (ct : ar) (xp : ar) (olt : Int32) (odl : ar) (R : Int32 × Int32 × Int32 × ar × ar × ar × ar × ar) (h : f_X1_restart dl odl olt = some R) : Mu l D cI cZ cK yX1_restart cX1_restart 2 none rm_X1_restart [.ref a0, .ref b0] [(a0, .inr (1, [.ref a1, .ref a3, .ref a4, .ref a5, .ref a6, .ref a7, .ref a8, .int wz, .int tm])), (a1, .inr (3, [.ref a2, .int lt])), (a2, .inl (cI, 36, .inl dl)), (a3, .inl (cI, 36, .inl hp)), (a5, .inl (cI, 216, .inl md)), (a6, .inl (cI, 6, .inl ct)), (a7, .inl (cI, 6, .inl xp)), (b0, .inr (3, [.ref a9, .int olt])), (a9, .inl (cI, 36, .inl odl))] none [(a0, .inr (1, [.ref a1, .ref a3, .ref a4, .ref a5, .ref a6, .ref a7, .ref a8, .int R.1, .int R.2.1])), (a1, .inr (3, [.ref a2, .int R.2.2.1])), (a2, .inl (cI, 36, .inl R.2.2.2.1)), (a3, .inl (cI, 36, .inl R.2.2.2.2.1)), (a5, .inl (cI, 216, .inl R.2.2.2.2.2.1)), (a6, .inl (cI, 6, .inl R.2.2.2.2.2.2.1)), (a7, .inl (cI, 6, .inl R.2.2.2.2.2.2.2)), (b0, .inr (3, [.ref a9, .int olt])), (a9, .inl (cI, 36, .inl odl))] := by
  refine mv_of (by decide) (Nat.le_of_ble_eq_true rfl) ?_
  intro p e s m args below meth c Q A ls hx hb hml hown hk hA w hret hl
  have hl : lv_has ls 2 [(0, .ref a0), (1, .ref b0)] := hl
  obtain ⟨C0, hC0, h⟩ := sat_top h
  unfold f_X1_restart at h
  refine lv_aload_n hx hb dX1_restart_0 rfl (lv_at hl 0 rfl) ?_
  refine gf_X1_12 hx hb hown hk w.1 0 rfl rfl dX1_restart_1 ?_
  refine lv_aload_n hx hb dX1_restart_4 rfl (lv_at hl 1 rfl) ?_
  obtain ⟨r_1, e_1, h⟩ := sat_bind h
  refine cMV (rest := []) (wr := [(a0, .inr (1, [.ref a1, .ref a3, .ref a4, .ref a5, .ref a6, .ref a7, .ref a8, .int wz, .int tm])), (a3, .inl (cI, 36, .inl hp)), (a5, .inl (cI, 216, .inl md)), (a6, .inl (cI, 6, .inl ct)), (a7, .inl (cI, 6, .inl xp))]) (ws' := [(a0, .inr (1, [.ref a1, .ref a3, .ref a4, .ref a5, .ref a6, .ref a7, .ref a8, .int wz, .int tm])), (a1, .inr (3, [.ref a2, .int r_1.1])), (a2, .inl (cI, 36, .inl r_1.2)), (a3, .inl (cI, 36, .inl hp)), (a5, .inl (cI, 216, .inl md)), (a6, .inl (cI, 6, .inl ct)), (a7, .inl (cI, 6, .inl xp)), (b0, .inr (3, [.ref a9, .int olt])), (a9, .inl (cI, 36, .inl odl))]) hx hb hml hown hk w hA (k_X3_copyFrom l D cI cZ cK a1 a2 b0 a9 lt dl olt odl r_1 e_1) (me_X3_copyFrom hk.2.1) (mi_X3_copyFrom hk.2.1) (ml_X1_37 hk.2.1) ((pmn 9 [1, 2, 7, 8, 0, 3, 4, 5, 6] rfl rfl (by decide))) ((pmn 9 [4, 0, 1, 5, 6, 7, 8, 2, 3] rfl rfl (by decide))) 0 rfl rfl rfl hl.1 rfl rfl (Nat.le_of_ble_eq_true rfl) ⟨rfl, rfl, Nat.le_of_ble_eq_true rfl, Nat.le_of_ble_eq_true rfl, Nat.zero_le _, Nat.zero_le _⟩ dX1_restart_5 (fun H locs w => ?_)
  refine W.eq (g2 := F0 m 8 ls []) rfl ?_
  refine lv_aload_n hx hb dX1_restart_8 rfl (lv_at hl 0 rfl) ?_
  refine gf_X1_18 hx hb hown hk w.1 0 rfl rfl dX1_restart_9 ?_
  refine lv_iconst (v := 0) hx hb dX1_restart_12 (by decide) ?_
  refine cMS (rest := []) (wr := [(a0, .inr (1, [.ref a1, .ref a3, .ref a4, .ref a5, .ref a6, .ref a7, .ref a8, .int wz, .int tm])), (a1, .inr (3, [.ref a2, .int r_1.1])), (a2, .inl (cI, 36, .inl r_1.2)), (a5, .inl (cI, 216, .inl md)), (a6, .inl (cI, 6, .inl ct)), (a7, .inl (cI, 6, .inl xp)), (b0, .inr (3, [.ref a9, .int olt])), (a9, .inl (cI, 36, .inl odl))]) (ws' := [(a0, .inr (1, [.ref a1, .ref a3, .ref a4, .ref a5, .ref a6, .ref a7, .ref a8, .int wz, .int tm])), (a1, .inr (3, [.ref a2, .int r_1.1])), (a2, .inl (cI, 36, .inl r_1.2)), (a3, .inl (cI, 36, .inl (fun _ => 0))), (a5, .inl (cI, 216, .inl md)), (a6, .inl (cI, 6, .inl ct)), (a7, .inl (cI, 6, .inl xp)), (b0, .inr (3, [.ref a9, .int olt])), (a9, .inl (cI, 36, .inl odl))]) hx hb hml hown hk w hA (k_fill l D cI cZ cK a3 36 (Nat.le_of_ble_eq_true rfl) hp 0) (me_J7_fill_53178 hk.2.1) (ms_J7_fill_53178 hk.2.1) (ml_X1_41 hk.2.1) (pmn 9 [3, 0, 1, 2, 4, 5, 6, 7, 8] rfl rfl (by decide)) (pmn 9 [1, 2, 3, 0, 4, 5, 6, 7, 8] rfl rfl (by decide)) hl.1 rfl rfl (Nat.le_of_ble_eq_true rfl) ⟨rfl, rfl, Nat.le_of_ble_eq_true rfl, Nat.le_of_ble_eq_true rfl, Nat.zero_le _, Nat.zero_le _⟩ dX1_restart_13 (fun H locs w => ?_)
  refine W.eq (g2 := F0 m 16 ls []) rfl ?_
  refine lv_aload_n hx hb dX1_restart_16 rfl (lv_at hl 0 rfl) ?_
  refine gf_X1_25 hx hb hown hk w.1 0 rfl rfl dX1_restart_17 ?_
  refine lv_iconst (v := 0) hx hb dX1_restart_20 (by decide) ?_
  refine cMS (rest := []) (wr := [(a0, .inr (1, [.ref a1, .ref a3, .ref a4, .ref a5, .ref a6, .ref a7, .ref a8, .int wz, .int tm])), (a1, .inr (3, [.ref a2, .int r_1.1])), (a2, .inl (cI, 36, .inl r_1.2)), (a3, .inl (cI, 36, .inl (fun _ => 0))), (a6, .inl (cI, 6, .inl ct)), (a7, .inl (cI, 6, .inl xp)), (b0, .inr (3, [.ref a9, .int olt])), (a9, .inl (cI, 36, .inl odl))]) (ws' := [(a0, .inr (1, [.ref a1, .ref a3, .ref a4, .ref a5, .ref a6, .ref a7, .ref a8, .int wz, .int tm])), (a1, .inr (3, [.ref a2, .int r_1.1])), (a2, .inl (cI, 36, .inl r_1.2)), (a3, .inl (cI, 36, .inl (fun _ => 0))), (a5, .inl (cI, 216, .inl (fun _ => 0))), (a6, .inl (cI, 6, .inl ct)), (a7, .inl (cI, 6, .inl xp)), (b0, .inr (3, [.ref a9, .int olt])), (a9, .inl (cI, 36, .inl odl))]) hx hb hml hown hk w hA (k_fill l D cI cZ cK a5 216 (Nat.le_of_ble_eq_true rfl) md 0) (me_J7_fill_53178 hk.2.1) (ms_J7_fill_53178 hk.2.1) (ml_X1_41 hk.2.1) (pmn 9 [4, 0, 1, 2, 3, 5, 6, 7, 8] rfl rfl (by decide)) (pmn 9 [1, 2, 3, 4, 0, 5, 6, 7, 8] rfl rfl (by decide)) hl.1 rfl rfl (Nat.le_of_ble_eq_true rfl) ⟨rfl, rfl, Nat.le_of_ble_eq_true rfl, Nat.le_of_ble_eq_true rfl, Nat.zero_le _, Nat.zero_le _⟩ dX1_restart_21 (fun H locs w => ?_)
  refine W.eq (g2 := F0 m 24 ls []) rfl ?_
  refine lv_aload_n hx hb dX1_restart_24 rfl (lv_at hl 0 rfl) ?_
  refine gf_X1_28 hx hb hown hk w.1 0 rfl rfl dX1_restart_25 ?_
  refine lv_iconst (v := 0) hx hb dX1_restart_28 (by decide) ?_
  refine cMS (rest := []) (wr := [(a0, .inr (1, [.ref a1, .ref a3, .ref a4, .ref a5, .ref a6, .ref a7, .ref a8, .int wz, .int tm])), (a1, .inr (3, [.ref a2, .int r_1.1])), (a2, .inl (cI, 36, .inl r_1.2)), (a3, .inl (cI, 36, .inl (fun _ => 0))), (a5, .inl (cI, 216, .inl (fun _ => 0))), (a7, .inl (cI, 6, .inl xp)), (b0, .inr (3, [.ref a9, .int olt])), (a9, .inl (cI, 36, .inl odl))]) (ws' := [(a0, .inr (1, [.ref a1, .ref a3, .ref a4, .ref a5, .ref a6, .ref a7, .ref a8, .int wz, .int tm])), (a1, .inr (3, [.ref a2, .int r_1.1])), (a2, .inl (cI, 36, .inl r_1.2)), (a3, .inl (cI, 36, .inl (fun _ => 0))), (a5, .inl (cI, 216, .inl (fun _ => 0))), (a6, .inl (cI, 6, .inl (fun _ => 0))), (a7, .inl (cI, 6, .inl xp)), (b0, .inr (3, [.ref a9, .int olt])), (a9, .inl (cI, 36, .inl odl))]) hx hb hml hown hk w hA (k_fill l D cI cZ cK a6 6 (Nat.le_of_ble_eq_true rfl) ct 0) (me_J7_fill_53178 hk.2.1) (ms_J7_fill_53178 hk.2.1) (ml_X1_41 hk.2.1) (pmn 9 [5, 0, 1, 2, 3, 4, 6, 7, 8] rfl rfl (by decide)) (pmn 9 [1, 2, 3, 4, 5, 0, 6, 7, 8] rfl rfl (by decide)) hl.1 rfl rfl (Nat.le_of_ble_eq_true rfl) ⟨rfl, rfl, Nat.le_of_ble_eq_true rfl, Nat.le_of_ble_eq_true rfl, Nat.zero_le _, Nat.zero_le _⟩ dX1_restart_29 (fun H locs w => ?_)
  refine W.eq (g2 := F0 m 32 ls []) rfl ?_
  refine lv_aload_n hx hb dX1_restart_32 rfl (lv_at hl 0 rfl) ?_
  refine gf_X1_31 hx hb hown hk w.1 0 rfl rfl dX1_restart_33 ?_
  refine lv_iconst (v := 0) hx hb dX1_restart_36 (by decide) ?_
  refine cMS (rest := []) (wr := [(a0, .inr (1, [.ref a1, .ref a3, .ref a4, .ref a5, .ref a6, .ref a7, .ref a8, .int wz, .int tm])), (a1, .inr (3, [.ref a2, .int r_1.1])), (a2, .inl (cI, 36, .inl r_1.2)), (a3, .inl (cI, 36, .inl (fun _ => 0))), (a5, .inl (cI, 216, .inl (fun _ => 0))), (a6, .inl (cI, 6, .inl (fun _ => 0))), (b0, .inr (3, [.ref a9, .int olt])), (a9, .inl (cI, 36, .inl odl))]) (ws' := [(a0, .inr (1, [.ref a1, .ref a3, .ref a4, .ref a5, .ref a6, .ref a7, .ref a8, .int wz, .int tm])), (a1, .inr (3, [.ref a2, .int r_1.1])), (a2, .inl (cI, 36, .inl r_1.2)), (a3, .inl (cI, 36, .inl (fun _ => 0))), (a5, .inl (cI, 216, .inl (fun _ => 0))), (a6, .inl (cI, 6, .inl (fun _ => 0))), (a7, .inl (cI, 6, .inl (fun _ => 0))), (b0, .inr (3, [.ref a9, .int olt])), (a9, .inl (cI, 36, .inl odl))]) hx hb hml hown hk w hA (k_fill l D cI cZ cK a7 6 (Nat.le_of_ble_eq_true rfl) xp 0) (me_J7_fill_53178 hk.2.1) (ms_J7_fill_53178 hk.2.1) (ml_X1_41 hk.2.1) (pmn 9 [6, 0, 1, 2, 3, 4, 5, 7, 8] rfl rfl (by decide)) (pmn 9 [1, 2, 3, 4, 5, 6, 0, 7, 8] rfl rfl (by decide)) hl.1 rfl rfl (Nat.le_of_ble_eq_true rfl) ⟨rfl, rfl, Nat.le_of_ble_eq_true rfl, Nat.le_of_ble_eq_true rfl, Nat.zero_le _, Nat.zero_le _⟩ dX1_restart_37 (fun H locs w => ?_)
  refine W.eq (g2 := F0 m 40 ls []) rfl ?_
  refine lv_aload_n hx hb dX1_restart_40 rfl (lv_at hl 0 rfl) ?_
  refine lv_iconst (v := 0) hx hb dX1_restart_41 (by decide) ?_
  refine pf_X1_47 (ws' := [(a0, .inr (1, [.ref a1, .ref a3, .ref a4, .ref a5, .ref a6, .ref a7, .ref a8, .int 0, .int tm])), (a1, .inr (3, [.ref a2, .int r_1.1])), (a2, .inl (cI, 36, .inl r_1.2)), (a3, .inl (cI, 36, .inl (fun _ => 0))), (a5, .inl (cI, 216, .inl (fun _ => 0))), (a6, .inl (cI, 6, .inl (fun _ => 0))), (a7, .inl (cI, 6, .inl (fun _ => 0))), (b0, .inr (3, [.ref a9, .int olt])), (a9, .inl (cI, 36, .inl odl))]) hx hb hown hk w 0 rfl (Nat.le_of_ble_eq_true rfl) rfl dX1_restart_42 (fun H locs w => ?_)
  refine lv_aload_n hx hb dX1_restart_45 rfl (lv_at hl 0 rfl) ?_
  refine lv_iconst (v := 0) hx hb dX1_restart_46 (by decide) ?_
  refine pf_X1_51 (ws' := [(a0, .inr (1, [.ref a1, .ref a3, .ref a4, .ref a5, .ref a6, .ref a7, .ref a8, .int 0, .int 0])), (a1, .inr (3, [.ref a2, .int r_1.1])), (a2, .inl (cI, 36, .inl r_1.2)), (a3, .inl (cI, 36, .inl (fun _ => 0))), (a5, .inl (cI, 216, .inl (fun _ => 0))), (a6, .inl (cI, 6, .inl (fun _ => 0))), (a7, .inl (cI, 6, .inl (fun _ => 0))), (b0, .inr (3, [.ref a9, .int olt])), (a9, .inl (cI, 36, .inl odl))]) hx hb hown hk w 0 rfl (Nat.le_of_ble_eq_true rfl) rfl dX1_restart_47 (fun H locs w => ?_)
  have hR := hC0 _ (sat_some h)
  subst hR
  exact hret _ _ _ _ w dX1_restart_50
def f_X1_copyFrom (dl : ar) (hp : ar) (gs : ar) (md : ar) (ct : ar) (xp : ar) (wn : ar) (odl : ar) (olt : Int32) (ohp : ar) (ogs : ar) (omd : ar) (oct : ar) (oxp : ar) (own : ar) (owz : Int32) (otm : Int32) : Option (Int32 × Int32 × Int32 × ar × ar × ar × ar × ar × ar × ar) := Option.bind (f_X3_copyFrom dl odl olt) fun r_1 => ck (cpo 0 0 36 36 36) (ck (cpo 0 0 216 216 216) (ck (cpo 0 0 216 216 216) (ck (cpo 0 0 6 6 6) (ck (cpo 0 0 6 6 6) (ck (cpo 0 0 owz 101 101) (some (owz, otm, r_1.1, r_1.2, va_cpy ohp hp (0 : Int32).toNatClampNeg (0 : Int32).toNatClampNeg (36 : Int32).toNatClampNeg, va_cpy ogs gs (0 : Int32).toNatClampNeg (0 : Int32).toNatClampNeg (216 : Int32).toNatClampNeg, va_cpy omd md (0 : Int32).toNatClampNeg (0 : Int32).toNatClampNeg (216 : Int32).toNatClampNeg, va_cpy oct ct (0 : Int32).toNatClampNeg (0 : Int32).toNatClampNeg (6 : Int32).toNatClampNeg, va_cpy oxp xp (0 : Int32).toNatClampNeg (0 : Int32).toNatClampNeg (6 : Int32).toNatClampNeg, va_cpy own wn (0 : Int32).toNatClampNeg (0 : Int32).toNatClampNeg owz.toNatClampNeg)))))))
abbrev rm_X1_copyFrom : Room := { frames := 2, cells := 0, slots := 0, locals := 39 }
set_option maxRecDepth 100000 in
set_option maxHeartbeats 4000000 in
theorem k_X1_copyFrom (l : Launch) (D : va_G) (cI cZ cK : ClassId) (a0 a1 a3 a4 a5 a6 a7 a8 a2 b0 a9 a11 a12 a13 a14 a15 a16 a10 : Nat) (wz : Int32) (tm : Int32) (lt : Int32) (dl : ar) (hp : ar) (gs : ar) (md : ar) (ct : ar) (xp : ar) (wn : ar) (owz : Int32) (otm : Int32) (olt : Int32) (odl : ar) (ohp : ar) (ogs : ar) (omd : ar) (oct : ar) (oxp : ar) (own : ar) (R : Int32 × Int32 × Int32 × ar × ar × ar × ar × ar × ar × ar) (h : f_X1_copyFrom dl hp gs md ct xp wn odl olt ohp ogs omd oct oxp own owz otm = some R) : Mu l D cI cZ cK yX1_copyFrom cX1_copyFrom 2 none rm_X1_copyFrom [.ref a0, .ref b0] [(a0, .inr (1, [.ref a1, .ref a3, .ref a4, .ref a5, .ref a6, .ref a7, .ref a8, .int wz, .int tm])), (a1, .inr (3, [.ref a2, .int lt])), (a2, .inl (cI, 36, .inl dl)), (a3, .inl (cI, 36, .inl hp)), (a4, .inl (cI, 216, .inl gs)), (a5, .inl (cI, 216, .inl md)), (a6, .inl (cI, 6, .inl ct)), (a7, .inl (cI, 6, .inl xp)), (a8, .inl (cI, 101, .inl wn)), (b0, .inr (1, [.ref a9, .ref a11, .ref a12, .ref a13, .ref a14, .ref a15, .ref a16, .int owz, .int otm])), (a9, .inr (3, [.ref a10, .int olt])), (a10, .inl (cI, 36, .inl odl)), (a11, .inl (cI, 36, .inl ohp)), (a12, .inl (cI, 216, .inl ogs)), (a13, .inl (cI, 216, .inl omd)), (a14, .inl (cI, 6, .inl oct)), (a15, .inl (cI, 6, .inl oxp)), (a16, .inl (cI, 101, .inl own))] none [(a0, .inr (1, [.ref a1, .ref a3, .ref a4, .ref a5, .ref a6, .ref a7, .ref a8, .int R.1, .int R.2.1])), (a1, .inr (3, [.ref a2, .int R.2.2.1])), (a2, .inl (cI, 36, .inl R.2.2.2.1)), (a3, .inl (cI, 36, .inl R.2.2.2.2.1)), (a4, .inl (cI, 216, .inl R.2.2.2.2.2.1)), (a5, .inl (cI, 216, .inl R.2.2.2.2.2.2.1)), (a6, .inl (cI, 6, .inl R.2.2.2.2.2.2.2.1)), (a7, .inl (cI, 6, .inl R.2.2.2.2.2.2.2.2.1)), (a8, .inl (cI, 101, .inl R.2.2.2.2.2.2.2.2.2)), (b0, .inr (1, [.ref a9, .ref a11, .ref a12, .ref a13, .ref a14, .ref a15, .ref a16, .int owz, .int otm])), (a9, .inr (3, [.ref a10, .int olt])), (a10, .inl (cI, 36, .inl odl)), (a11, .inl (cI, 36, .inl ohp)), (a12, .inl (cI, 216, .inl ogs)), (a13, .inl (cI, 216, .inl omd)), (a14, .inl (cI, 6, .inl oct)), (a15, .inl (cI, 6, .inl oxp)), (a16, .inl (cI, 101, .inl own))] := by
  refine mv_of (by decide) (Nat.le_of_ble_eq_true rfl) ?_
  intro p e s m args below meth c Q A ls hx hb hml hown hk hA w hret hl
  have hl : lv_has ls 2 [(0, .ref a0), (1, .ref b0)] := hl
  obtain ⟨C0, hC0, h⟩ := sat_top h
  unfold f_X1_copyFrom at h
  refine lv_aload_n hx hb dX1_copyFrom_0 rfl (lv_at hl 0 rfl) ?_
  refine gf_X1_12 hx hb hown hk w.1 0 rfl rfl dX1_copyFrom_1 ?_
  refine lv_aload_n hx hb dX1_copyFrom_4 rfl (lv_at hl 1 rfl) ?_
  refine gf_X1_12 hx hb hown hk w.1 9 rfl rfl dX1_copyFrom_5 ?_
  obtain ⟨r_1, e_1, h⟩ := sat_bind h
  refine cMV (rest := []) (wr := [(a0, .inr (1, [.ref a1, .ref a3, .ref a4, .ref a5, .ref a6, .ref a7, .ref a8, .int wz, .int tm])), (a3, .inl (cI, 36, .inl hp)), (a4, .inl (cI, 216, .inl gs)), (a5, .inl (cI, 216, .inl md)), (a6, .inl (cI, 6, .inl ct)), (a7, .inl (cI, 6, .inl xp)), (a8, .inl (cI, 101, .inl wn)), (b0, .inr (1, [.ref a9, .ref a11, .ref a12, .ref a13, .ref a14, .ref a15, .ref a16, .int owz, .int otm])), (a11, .inl (cI, 36, .inl ohp)), (a12, .inl (cI, 216, .inl ogs)), (a13, .inl (cI, 216, .inl omd)), (a14, .inl (cI, 6, .inl oct)), (a15, .inl (cI, 6, .inl oxp)), (a16, .inl (cI, 101, .inl own))]) (ws' := [(a0, .inr (1, [.ref a1, .ref a3, .ref a4, .ref a5, .ref a6, .ref a7, .ref a8, .int wz, .int tm])), (a1, .inr (3, [.ref a2, .int r_1.1])), (a2, .inl (cI, 36, .inl r_1.2)), (a3, .inl (cI, 36, .inl hp)), (a4, .inl (cI, 216, .inl gs)), (a5, .inl (cI, 216, .inl md)), (a6, .inl (cI, 6, .inl ct)), (a7, .inl (cI, 6, .inl xp)), (a8, .inl (cI, 101, .inl wn)), (b0, .inr (1, [.ref a9, .ref a11, .ref a12, .ref a13, .ref a14, .ref a15, .ref a16, .int owz, .int otm])), (a9, .inr (3, [.ref a10, .int olt])), (a10, .inl (cI, 36, .inl odl)), (a11, .inl (cI, 36, .inl ohp)), (a12, .inl (cI, 216, .inl ogs)), (a13, .inl (cI, 216, .inl omd)), (a14, .inl (cI, 6, .inl oct)), (a15, .inl (cI, 6, .inl oxp)), (a16, .inl (cI, 101, .inl own))]) hx hb hml hown hk w hA (k_X3_copyFrom l D cI cZ cK a1 a2 a9 a10 lt dl olt odl r_1 e_1) (me_X3_copyFrom hk.2.1) (mi_X3_copyFrom hk.2.1) (ml_X1_37 hk.2.1) ((pmn 18 [1, 2, 10, 11, 0, 3, 4, 5, 6, 7, 8, 9, 12, 13, 14, 15, 16, 17] rfl rfl (by decide))) ((pmn 18 [4, 0, 1, 5, 6, 7, 8, 9, 10, 11, 2, 3, 12, 13, 14, 15, 16, 17] rfl rfl (by decide))) 0 rfl rfl rfl hl.1 rfl rfl (Nat.le_of_ble_eq_true rfl) ⟨rfl, rfl, Nat.le_of_ble_eq_true rfl, Nat.le_of_ble_eq_true rfl, Nat.zero_le _, Nat.zero_le _⟩ dX1_copyFrom_8 (fun H locs w => ?_)
  refine W.eq (g2 := F0 m 11 ls []) rfl ?_
  refine lv_aload_n hx hb dX1_copyFrom_11 rfl (lv_at hl 1 rfl) ?_
  refine gf_X1_18 hx hb hown hk w.1 9 rfl rfl dX1_copyFrom_12 ?_
  refine lv_iconst (v := 0) hx hb dX1_copyFrom_15 (by decide) ?_
  refine lv_aload_n hx hb dX1_copyFrom_16 rfl (lv_at hl 0 rfl) ?_
  refine gf_X1_18 hx hb hown hk w.1 0 rfl rfl dX1_copyFrom_17 ?_
  refine lv_iconst (v := 0) hx hb dX1_copyFrom_20 (by decide) ?_
  refine lv_bipush (v := 36) hx hb dX1_copyFrom_21 (by decide) ?_
  obtain ⟨hi, h⟩ := sat_cp h
  refine ac_X1_54 (ws' := [(a0, .inr (1, [.ref a1, .ref a3, .ref a4, .ref a5, .ref a6, .ref a7, .ref a8, .int wz, .int tm])), (a1, .inr (3, [.ref a2, .int r_1.1])), (a2, .inl (cI, 36, .inl r_1.2)), (a3, .inl (cI, 36, .inl (va_cpy ohp hp (0 : Int32).toNatClampNeg (0 : Int32).toNatClampNeg (36 : Int32).toNatClampNeg))), (a4, .inl (cI, 216, .inl gs)), (a5, .inl (cI, 216, .inl md)), (a6, .inl (cI, 6, .inl ct)), (a7, .inl (cI, 6, .inl xp)), (a8, .inl (cI, 101, .inl wn)), (b0, .inr (1, [.ref a9, .ref a11, .ref a12, .ref a13, .ref a14, .ref a15, .ref a16, .int owz, .int otm])), (a9, .inr (3, [.ref a10, .int olt])), (a10, .inl (cI, 36, .inl odl)), (a11, .inl (cI, 36, .inl ohp)), (a12, .inl (cI, 216, .inl ogs)), (a13, .inl (cI, 216, .inl omd)), (a14, .inl (cI, 6, .inl oct)), (a15, .inl (cI, 6, .inl oxp)), (a16, .inl (cI, 101, .inl own))]) hx hb hml hl.1 hown hk w 12 3 rfl rfl hi rfl ⟨Nat.le_of_ble_eq_true rfl, Nat.le_of_ble_eq_true rfl⟩ dX1_copyFrom_23 (fun H locs w => ?_)
  refine lv_aload_n hx hb dX1_copyFrom_26 rfl (lv_at hl 1 rfl) ?_
  refine gf_X1_22 hx hb hown hk w.1 9 rfl rfl dX1_copyFrom_27 ?_
  refine lv_iconst (v := 0) hx hb dX1_copyFrom_30 (by decide) ?_
  refine lv_aload_n hx hb dX1_copyFrom_31 rfl (lv_at hl 0 rfl) ?_
  refine gf_X1_22 hx hb hown hk w.1 0 rfl rfl dX1_copyFrom_32 ?_
  refine lv_iconst (v := 0) hx hb dX1_copyFrom_35 (by decide) ?_
  refine lv_sipush (v := 216) hx hb dX1_copyFrom_36 (by decide) ?_
  obtain ⟨hi, h⟩ := sat_cp h
  refine ac_X1_54 (ws' := [(a0, .inr (1, [.ref a1, .ref a3, .ref a4, .ref a5, .ref a6, .ref a7, .ref a8, .int wz, .int tm])), (a1, .inr (3, [.ref a2, .int r_1.1])), (a2, .inl (cI, 36, .inl r_1.2)), (a3, .inl (cI, 36, .inl (va_cpy ohp hp (0 : Int32).toNatClampNeg (0 : Int32).toNatClampNeg (36 : Int32).toNatClampNeg))), (a4, .inl (cI, 216, .inl (va_cpy ogs gs (0 : Int32).toNatClampNeg (0 : Int32).toNatClampNeg (216 : Int32).toNatClampNeg))), (a5, .inl (cI, 216, .inl md)), (a6, .inl (cI, 6, .inl ct)), (a7, .inl (cI, 6, .inl xp)), (a8, .inl (cI, 101, .inl wn)), (b0, .inr (1, [.ref a9, .ref a11, .ref a12, .ref a13, .ref a14, .ref a15, .ref a16, .int owz, .int otm])), (a9, .inr (3, [.ref a10, .int olt])), (a10, .inl (cI, 36, .inl odl)), (a11, .inl (cI, 36, .inl ohp)), (a12, .inl (cI, 216, .inl ogs)), (a13, .inl (cI, 216, .inl omd)), (a14, .inl (cI, 6, .inl oct)), (a15, .inl (cI, 6, .inl oxp)), (a16, .inl (cI, 101, .inl own))]) hx hb hml hl.1 hown hk w 13 4 rfl rfl hi rfl ⟨Nat.le_of_ble_eq_true rfl, Nat.le_of_ble_eq_true rfl⟩ dX1_copyFrom_39 (fun H locs w => ?_)
  refine lv_aload_n hx hb dX1_copyFrom_42 rfl (lv_at hl 1 rfl) ?_
  refine gf_X1_25 hx hb hown hk w.1 9 rfl rfl dX1_copyFrom_43 ?_
  refine lv_iconst (v := 0) hx hb dX1_copyFrom_46 (by decide) ?_
  refine lv_aload_n hx hb dX1_copyFrom_47 rfl (lv_at hl 0 rfl) ?_
  refine gf_X1_25 hx hb hown hk w.1 0 rfl rfl dX1_copyFrom_48 ?_
  refine lv_iconst (v := 0) hx hb dX1_copyFrom_51 (by decide) ?_
  refine lv_sipush (v := 216) hx hb dX1_copyFrom_52 (by decide) ?_
  obtain ⟨hi, h⟩ := sat_cp h
  refine ac_X1_54 (ws' := [(a0, .inr (1, [.ref a1, .ref a3, .ref a4, .ref a5, .ref a6, .ref a7, .ref a8, .int wz, .int tm])), (a1, .inr (3, [.ref a2, .int r_1.1])), (a2, .inl (cI, 36, .inl r_1.2)), (a3, .inl (cI, 36, .inl (va_cpy ohp hp (0 : Int32).toNatClampNeg (0 : Int32).toNatClampNeg (36 : Int32).toNatClampNeg))), (a4, .inl (cI, 216, .inl (va_cpy ogs gs (0 : Int32).toNatClampNeg (0 : Int32).toNatClampNeg (216 : Int32).toNatClampNeg))), (a5, .inl (cI, 216, .inl (va_cpy omd md (0 : Int32).toNatClampNeg (0 : Int32).toNatClampNeg (216 : Int32).toNatClampNeg))), (a6, .inl (cI, 6, .inl ct)), (a7, .inl (cI, 6, .inl xp)), (a8, .inl (cI, 101, .inl wn)), (b0, .inr (1, [.ref a9, .ref a11, .ref a12, .ref a13, .ref a14, .ref a15, .ref a16, .int owz, .int otm])), (a9, .inr (3, [.ref a10, .int olt])), (a10, .inl (cI, 36, .inl odl)), (a11, .inl (cI, 36, .inl ohp)), (a12, .inl (cI, 216, .inl ogs)), (a13, .inl (cI, 216, .inl omd)), (a14, .inl (cI, 6, .inl oct)), (a15, .inl (cI, 6, .inl oxp)), (a16, .inl (cI, 101, .inl own))]) hx hb hml hl.1 hown hk w 14 5 rfl rfl hi rfl ⟨Nat.le_of_ble_eq_true rfl, Nat.le_of_ble_eq_true rfl⟩ dX1_copyFrom_55 (fun H locs w => ?_)
  refine lv_aload_n hx hb dX1_copyFrom_58 rfl (lv_at hl 1 rfl) ?_
  refine gf_X1_28 hx hb hown hk w.1 9 rfl rfl dX1_copyFrom_59 ?_
  refine lv_iconst (v := 0) hx hb dX1_copyFrom_62 (by decide) ?_
  refine lv_aload_n hx hb dX1_copyFrom_63 rfl (lv_at hl 0 rfl) ?_
  refine gf_X1_28 hx hb hown hk w.1 0 rfl rfl dX1_copyFrom_64 ?_
  refine lv_iconst (v := 0) hx hb dX1_copyFrom_67 (by decide) ?_
  refine lv_bipush (v := 6) hx hb dX1_copyFrom_68 (by decide) ?_
  obtain ⟨hi, h⟩ := sat_cp h
  refine ac_X1_54 (ws' := [(a0, .inr (1, [.ref a1, .ref a3, .ref a4, .ref a5, .ref a6, .ref a7, .ref a8, .int wz, .int tm])), (a1, .inr (3, [.ref a2, .int r_1.1])), (a2, .inl (cI, 36, .inl r_1.2)), (a3, .inl (cI, 36, .inl (va_cpy ohp hp (0 : Int32).toNatClampNeg (0 : Int32).toNatClampNeg (36 : Int32).toNatClampNeg))), (a4, .inl (cI, 216, .inl (va_cpy ogs gs (0 : Int32).toNatClampNeg (0 : Int32).toNatClampNeg (216 : Int32).toNatClampNeg))), (a5, .inl (cI, 216, .inl (va_cpy omd md (0 : Int32).toNatClampNeg (0 : Int32).toNatClampNeg (216 : Int32).toNatClampNeg))), (a6, .inl (cI, 6, .inl (va_cpy oct ct (0 : Int32).toNatClampNeg (0 : Int32).toNatClampNeg (6 : Int32).toNatClampNeg))), (a7, .inl (cI, 6, .inl xp)), (a8, .inl (cI, 101, .inl wn)), (b0, .inr (1, [.ref a9, .ref a11, .ref a12, .ref a13, .ref a14, .ref a15, .ref a16, .int owz, .int otm])), (a9, .inr (3, [.ref a10, .int olt])), (a10, .inl (cI, 36, .inl odl)), (a11, .inl (cI, 36, .inl ohp)), (a12, .inl (cI, 216, .inl ogs)), (a13, .inl (cI, 216, .inl omd)), (a14, .inl (cI, 6, .inl oct)), (a15, .inl (cI, 6, .inl oxp)), (a16, .inl (cI, 101, .inl own))]) hx hb hml hl.1 hown hk w 15 6 rfl rfl hi rfl ⟨Nat.le_of_ble_eq_true rfl, Nat.le_of_ble_eq_true rfl⟩ dX1_copyFrom_70 (fun H locs w => ?_)
  refine lv_aload_n hx hb dX1_copyFrom_73 rfl (lv_at hl 1 rfl) ?_
  refine gf_X1_31 hx hb hown hk w.1 9 rfl rfl dX1_copyFrom_74 ?_
  refine lv_iconst (v := 0) hx hb dX1_copyFrom_77 (by decide) ?_
  refine lv_aload_n hx hb dX1_copyFrom_78 rfl (lv_at hl 0 rfl) ?_
  refine gf_X1_31 hx hb hown hk w.1 0 rfl rfl dX1_copyFrom_79 ?_
  refine lv_iconst (v := 0) hx hb dX1_copyFrom_82 (by decide) ?_
  refine lv_bipush (v := 6) hx hb dX1_copyFrom_83 (by decide) ?_
  obtain ⟨hi, h⟩ := sat_cp h
  refine ac_X1_54 (ws' := [(a0, .inr (1, [.ref a1, .ref a3, .ref a4, .ref a5, .ref a6, .ref a7, .ref a8, .int wz, .int tm])), (a1, .inr (3, [.ref a2, .int r_1.1])), (a2, .inl (cI, 36, .inl r_1.2)), (a3, .inl (cI, 36, .inl (va_cpy ohp hp (0 : Int32).toNatClampNeg (0 : Int32).toNatClampNeg (36 : Int32).toNatClampNeg))), (a4, .inl (cI, 216, .inl (va_cpy ogs gs (0 : Int32).toNatClampNeg (0 : Int32).toNatClampNeg (216 : Int32).toNatClampNeg))), (a5, .inl (cI, 216, .inl (va_cpy omd md (0 : Int32).toNatClampNeg (0 : Int32).toNatClampNeg (216 : Int32).toNatClampNeg))), (a6, .inl (cI, 6, .inl (va_cpy oct ct (0 : Int32).toNatClampNeg (0 : Int32).toNatClampNeg (6 : Int32).toNatClampNeg))), (a7, .inl (cI, 6, .inl (va_cpy oxp xp (0 : Int32).toNatClampNeg (0 : Int32).toNatClampNeg (6 : Int32).toNatClampNeg))), (a8, .inl (cI, 101, .inl wn)), (b0, .inr (1, [.ref a9, .ref a11, .ref a12, .ref a13, .ref a14, .ref a15, .ref a16, .int owz, .int otm])), (a9, .inr (3, [.ref a10, .int olt])), (a10, .inl (cI, 36, .inl odl)), (a11, .inl (cI, 36, .inl ohp)), (a12, .inl (cI, 216, .inl ogs)), (a13, .inl (cI, 216, .inl omd)), (a14, .inl (cI, 6, .inl oct)), (a15, .inl (cI, 6, .inl oxp)), (a16, .inl (cI, 101, .inl own))]) hx hb hml hl.1 hown hk w 16 7 rfl rfl hi rfl ⟨Nat.le_of_ble_eq_true rfl, Nat.le_of_ble_eq_true rfl⟩ dX1_copyFrom_85 (fun H locs w => ?_)
  refine lv_aload_n hx hb dX1_copyFrom_88 rfl (lv_at hl 1 rfl) ?_
  refine gf_X1_34 hx hb hown hk w.1 9 rfl rfl dX1_copyFrom_89 ?_
  refine lv_iconst (v := 0) hx hb dX1_copyFrom_92 (by decide) ?_
  refine lv_aload_n hx hb dX1_copyFrom_93 rfl (lv_at hl 0 rfl) ?_
  refine gf_X1_34 hx hb hown hk w.1 0 rfl rfl dX1_copyFrom_94 ?_
  refine lv_iconst (v := 0) hx hb dX1_copyFrom_97 (by decide) ?_
  refine lv_aload_n hx hb dX1_copyFrom_98 rfl (lv_at hl 1 rfl) ?_
  refine gf_X1_47 hx hb hown hk w.1 9 rfl rfl dX1_copyFrom_99 ?_
  obtain ⟨hi, h⟩ := sat_cp h
  refine ac_X1_54 (ws' := [(a0, .inr (1, [.ref a1, .ref a3, .ref a4, .ref a5, .ref a6, .ref a7, .ref a8, .int wz, .int tm])), (a1, .inr (3, [.ref a2, .int r_1.1])), (a2, .inl (cI, 36, .inl r_1.2)), (a3, .inl (cI, 36, .inl (va_cpy ohp hp (0 : Int32).toNatClampNeg (0 : Int32).toNatClampNeg (36 : Int32).toNatClampNeg))), (a4, .inl (cI, 216, .inl (va_cpy ogs gs (0 : Int32).toNatClampNeg (0 : Int32).toNatClampNeg (216 : Int32).toNatClampNeg))), (a5, .inl (cI, 216, .inl (va_cpy omd md (0 : Int32).toNatClampNeg (0 : Int32).toNatClampNeg (216 : Int32).toNatClampNeg))), (a6, .inl (cI, 6, .inl (va_cpy oct ct (0 : Int32).toNatClampNeg (0 : Int32).toNatClampNeg (6 : Int32).toNatClampNeg))), (a7, .inl (cI, 6, .inl (va_cpy oxp xp (0 : Int32).toNatClampNeg (0 : Int32).toNatClampNeg (6 : Int32).toNatClampNeg))), (a8, .inl (cI, 101, .inl (va_cpy own wn (0 : Int32).toNatClampNeg (0 : Int32).toNatClampNeg owz.toNatClampNeg))), (b0, .inr (1, [.ref a9, .ref a11, .ref a12, .ref a13, .ref a14, .ref a15, .ref a16, .int owz, .int otm])), (a9, .inr (3, [.ref a10, .int olt])), (a10, .inl (cI, 36, .inl odl)), (a11, .inl (cI, 36, .inl ohp)), (a12, .inl (cI, 216, .inl ogs)), (a13, .inl (cI, 216, .inl omd)), (a14, .inl (cI, 6, .inl oct)), (a15, .inl (cI, 6, .inl oxp)), (a16, .inl (cI, 101, .inl own))]) hx hb hml hl.1 hown hk w 17 8 rfl rfl hi rfl ⟨Nat.le_of_ble_eq_true rfl, Nat.le_of_ble_eq_true rfl⟩ dX1_copyFrom_102 (fun H locs w => ?_)
  refine lv_aload_n hx hb dX1_copyFrom_105 rfl (lv_at hl 0 rfl) ?_
  refine lv_aload_n hx hb dX1_copyFrom_106 rfl (lv_at hl 1 rfl) ?_
  refine gf_X1_47 hx hb hown hk w.1 9 rfl rfl dX1_copyFrom_107 ?_
  refine pf_X1_47 (ws' := [(a0, .inr (1, [.ref a1, .ref a3, .ref a4, .ref a5, .ref a6, .ref a7, .ref a8, .int owz, .int tm])), (a1, .inr (3, [.ref a2, .int r_1.1])), (a2, .inl (cI, 36, .inl r_1.2)), (a3, .inl (cI, 36, .inl (va_cpy ohp hp (0 : Int32).toNatClampNeg (0 : Int32).toNatClampNeg (36 : Int32).toNatClampNeg))), (a4, .inl (cI, 216, .inl (va_cpy ogs gs (0 : Int32).toNatClampNeg (0 : Int32).toNatClampNeg (216 : Int32).toNatClampNeg))), (a5, .inl (cI, 216, .inl (va_cpy omd md (0 : Int32).toNatClampNeg (0 : Int32).toNatClampNeg (216 : Int32).toNatClampNeg))), (a6, .inl (cI, 6, .inl (va_cpy oct ct (0 : Int32).toNatClampNeg (0 : Int32).toNatClampNeg (6 : Int32).toNatClampNeg))), (a7, .inl (cI, 6, .inl (va_cpy oxp xp (0 : Int32).toNatClampNeg (0 : Int32).toNatClampNeg (6 : Int32).toNatClampNeg))), (a8, .inl (cI, 101, .inl (va_cpy own wn (0 : Int32).toNatClampNeg (0 : Int32).toNatClampNeg owz.toNatClampNeg))), (b0, .inr (1, [.ref a9, .ref a11, .ref a12, .ref a13, .ref a14, .ref a15, .ref a16, .int owz, .int otm])), (a9, .inr (3, [.ref a10, .int olt])), (a10, .inl (cI, 36, .inl odl)), (a11, .inl (cI, 36, .inl ohp)), (a12, .inl (cI, 216, .inl ogs)), (a13, .inl (cI, 216, .inl omd)), (a14, .inl (cI, 6, .inl oct)), (a15, .inl (cI, 6, .inl oxp)), (a16, .inl (cI, 101, .inl own))]) hx hb hown hk w 0 rfl (Nat.le_of_ble_eq_true rfl) rfl dX1_copyFrom_110 (fun H locs w => ?_)
  refine lv_aload_n hx hb dX1_copyFrom_113 rfl (lv_at hl 0 rfl) ?_
  refine lv_aload_n hx hb dX1_copyFrom_114 rfl (lv_at hl 1 rfl) ?_
  refine gf_X1_51 hx hb hown hk w.1 9 rfl rfl dX1_copyFrom_115 ?_
  refine pf_X1_51 (ws' := [(a0, .inr (1, [.ref a1, .ref a3, .ref a4, .ref a5, .ref a6, .ref a7, .ref a8, .int owz, .int otm])), (a1, .inr (3, [.ref a2, .int r_1.1])), (a2, .inl (cI, 36, .inl r_1.2)), (a3, .inl (cI, 36, .inl (va_cpy ohp hp (0 : Int32).toNatClampNeg (0 : Int32).toNatClampNeg (36 : Int32).toNatClampNeg))), (a4, .inl (cI, 216, .inl (va_cpy ogs gs (0 : Int32).toNatClampNeg (0 : Int32).toNatClampNeg (216 : Int32).toNatClampNeg))), (a5, .inl (cI, 216, .inl (va_cpy omd md (0 : Int32).toNatClampNeg (0 : Int32).toNatClampNeg (216 : Int32).toNatClampNeg))), (a6, .inl (cI, 6, .inl (va_cpy oct ct (0 : Int32).toNatClampNeg (0 : Int32).toNatClampNeg (6 : Int32).toNatClampNeg))), (a7, .inl (cI, 6, .inl (va_cpy oxp xp (0 : Int32).toNatClampNeg (0 : Int32).toNatClampNeg (6 : Int32).toNatClampNeg))), (a8, .inl (cI, 101, .inl (va_cpy own wn (0 : Int32).toNatClampNeg (0 : Int32).toNatClampNeg owz.toNatClampNeg))), (b0, .inr (1, [.ref a9, .ref a11, .ref a12, .ref a13, .ref a14, .ref a15, .ref a16, .int owz, .int otm])), (a9, .inr (3, [.ref a10, .int olt])), (a10, .inl (cI, 36, .inl odl)), (a11, .inl (cI, 36, .inl ohp)), (a12, .inl (cI, 216, .inl ogs)), (a13, .inl (cI, 216, .inl omd)), (a14, .inl (cI, 6, .inl oct)), (a15, .inl (cI, 6, .inl oxp)), (a16, .inl (cI, 101, .inl own))]) hx hb hown hk w 0 rfl (Nat.le_of_ble_eq_true rfl) rfl dX1_copyFrom_118 (fun H locs w => ?_)
  have hR := hC0 _ (sat_some h)
  subst hR
  exact hret _ _ _ _ w dX1_copyFrom_121
def f_X1_takeAway_L22 (x1 : Int32) (x2 : Int32) : Nat → Int32 → ar → Option (ar)
  | 0, _, _ => none
  | n + 1, x3_22, md_22 => if 6 ≤ x3_22 then some md_22 else Option.bind (f_X11_guessCell x1 x3_22 x2) fun r_3 => ck (inb r_3 216) (Option.bind (f_X11_guessCell x2 x3_22 x1) fun r_4 => ck (inb r_4 216) (f_X1_takeAway_L22 x1 x2 n (x3_22 + 1) (upd (upd md_22 r_3.toNatClampNeg 0) r_4.toNatClampNeg 0)))
def f_X1_takeAway (N : Nat) (dl : ar) (lt : Int32) (hp : ar) (md : ar) (x1 : Int32) (x2 : Int32) : Option (Int32 × ar × ar × ar) := Option.bind (f_X3_takeAway dl lt x1 x2) fun r_1 => Option.bind (f_X11_pairCell x1 x2) fun r_2 => ck (inb r_2 36) (Option.bind (f_X1_takeAway_L22 x1 x2 N 0 md) fun s22 => some (r_1.1, r_1.2, upd hp r_2.toNatClampNeg 0, s22))
abbrev rm_X1_takeAway : Room := { frames := 3, cells := 0, slots := 0, locals := 65 }
set_option maxRecDepth 100000 in
set_option maxHeartbeats 4000000 in
theorem k_X1_takeAway (l : Launch) (D : va_G) (cI cZ cK : ClassId) (N : Nat) (a0 a1 a3 a4 a5 a6 a7 a8 a2 : Nat) (wz : Int32) (tm : Int32) (lt : Int32) (dl : ar) (hp : ar) (md : ar) (x1 : Int32) (x2 : Int32) (R : Int32 × ar × ar × ar) (h : f_X1_takeAway N dl lt hp md x1 x2 = some R) : Mu l D cI cZ cK yX1_takeAway cX1_takeAway 4 none rm_X1_takeAway [.ref a0, .int x1, .int x2] [(a0, .inr (1, [.ref a1, .ref a3, .ref a4, .ref a5, .ref a6, .ref a7, .ref a8, .int wz, .int tm])), (a1, .inr (3, [.ref a2, .int lt])), (a2, .inl (cI, 36, .inl dl)), (a3, .inl (cI, 36, .inl hp)), (a5, .inl (cI, 216, .inl md))] none [(a0, .inr (1, [.ref a1, .ref a3, .ref a4, .ref a5, .ref a6, .ref a7, .ref a8, .int wz, .int tm])), (a1, .inr (3, [.ref a2, .int R.1])), (a2, .inl (cI, 36, .inl R.2.1)), (a3, .inl (cI, 36, .inl R.2.2.1)), (a5, .inl (cI, 216, .inl R.2.2.2))] := by
  refine mv_of (by decide) (Nat.le_of_ble_eq_true rfl) ?_
  intro p e s m args below meth c Q A ls hx hb hml hown hk hA w hret hl
  have hl : lv_has ls 4 [(0, .ref a0), (1, .int x1), (2, .int x2)] := hl
  obtain ⟨C0, hC0, h⟩ := sat_top h
  unfold f_X1_takeAway at h
  refine lv_aload_n hx hb dX1_takeAway_0 rfl (lv_at hl 0 rfl) ?_
  refine gf_X1_12 hx hb hown hk w.1 0 rfl rfl dX1_takeAway_1 ?_
  refine lv_iload_n hx hb dX1_takeAway_4 rfl (lv_at hl 1 rfl) ?_
  refine lv_iload_n hx hb dX1_takeAway_5 rfl (lv_at hl 2 rfl) ?_
  obtain ⟨r_1, e_1, h⟩ := sat_bind h
  refine cMV (rest := []) (wr := [(a0, .inr (1, [.ref a1, .ref a3, .ref a4, .ref a5, .ref a6, .ref a7, .ref a8, .int wz, .int tm])), (a3, .inl (cI, 36, .inl hp)), (a5, .inl (cI, 216, .inl md))]) (ws' := [(a0, .inr (1, [.ref a1, .ref a3, .ref a4, .ref a5, .ref a6, .ref a7, .ref a8, .int wz, .int tm])), (a1, .inr (3, [.ref a2, .int r_1.1])), (a2, .inl (cI, 36, .inl r_1.2)), (a3, .inl (cI, 36, .inl hp)), (a5, .inl (cI, 216, .inl md))]) hx hb hml hown hk w hA (k_X3_takeAway l D cI cZ cK a1 a2 lt dl x1 x2 r_1 e_1) (me_X3_takeAway hk.2.1) (mi_X3_takeAway hk.2.1) (ml_X1_60 hk.2.1) ((pmn 5 [1, 2, 0, 3, 4] rfl rfl (by decide))) ((pmn 5 [2, 0, 1, 3, 4] rfl rfl (by decide))) 0 rfl rfl rfl hl.1 rfl rfl (Nat.le_of_ble_eq_true rfl) ⟨rfl, rfl, Nat.le_of_ble_eq_true rfl, Nat.le_of_ble_eq_true rfl, Nat.zero_le _, Nat.zero_le _⟩ dX1_takeAway_6 (fun H locs w => ?_)
  refine W.eq (g2 := F0 m 9 ls []) rfl ?_
  refine lv_aload_n hx hb dX1_takeAway_9 rfl (lv_at hl 0 rfl) ?_
  refine gf_X1_18 hx hb hown hk w.1 0 rfl rfl dX1_takeAway_10 ?_
  refine lv_iload_n hx hb dX1_takeAway_13 rfl (lv_at hl 1 rfl) ?_
  refine lv_iload_n hx hb dX1_takeAway_14 rfl (lv_at hl 2 rfl) ?_
  obtain ⟨r_2, e_2, h⟩ := sat_bind h
  refine cRN (rest := [.ref a3]) hx hb hml hown hk (k_X11_pairCell l D cI cZ cK x1 x2 r_2 e_2) (me_X11_pairCell hk.2.1) (ms_X11_pairCell hk.2.1) (hk.2.2.1 (RX1, 64, yX11_pairCell) (List.mem_of_getElem? (i := 6) rfl)) (w.1.sub [] rfl) hl.1 rfl rfl (Nat.le_of_ble_eq_true rfl) ⟨rfl, rfl, Nat.le_of_ble_eq_true rfl, Nat.le_of_ble_eq_true rfl, Nat.zero_le _, Nat.zero_le _⟩ dX1_takeAway_15 ?_
  refine lv_iconst (v := 0) hx hb dX1_takeAway_18 (by decide) ?_
  obtain ⟨hi, h⟩ := sat_in h
  refine ra_ist (ws' := [(a0, .inr (1, [.ref a1, .ref a3, .ref a4, .ref a5, .ref a6, .ref a7, .ref a8, .int wz, .int tm])), (a1, .inr (3, [.ref a2, .int r_1.1])), (a2, .inl (cI, 36, .inl r_1.2)), (a3, .inl (cI, 36, .inl (upd hp r_2.toNatClampNeg 0))), (a5, .inl (cI, 216, .inl md))]) hx hb hk w 3 rfl hi rfl dX1_takeAway_19 (fun H locs w => ?_)
  refine lv_iconst (v := 0) hx hb dX1_takeAway_20 (by decide) ?_
  refine lv_istore_n (lv' := [(3, .int 0), (0, .ref a0), (1, .int x1), (2, .int x2)]) hx hb dX1_takeAway_21 rfl hl (by decide) rfl (fun ls hl => ?_)
  obtain ⟨T22, hT22, h⟩ := sat_reg h
  have E22 : ∀ (md_5 : ar) (H : Heap) (locs : List Loc) (ls : Array Slot), T22 md_5 → wd D A s.heap H locs [(a0, .inr (1, [.ref a1, .ref a3, .ref a4, .ref a5, .ref a6, .ref a7, .ref a8, .int wz, .int tm])), (a1, .inr (3, [.ref a2, .int r_1.1])), (a2, .inl (cI, 36, .inl r_1.2)), (a3, .inl (cI, 36, .inl (upd hp r_2.toNatClampNeg 0))), (a5, .inl (cI, 216, .inl md_5))] → lv_has ls 4 [] → W p l e rm_X1_takeAway s m args below meth c H locs 0 0 Q (F0 m 58 ls []) := by
    intro md_5 H locs ls h w hl
    have h := hT22 _ h
    have hR := hC0 _ (sat_some h)
    subst hR
    exact hret _ _ _ _ w dX1_takeAway_58
  have L22 : ∀ (n : Nat) (x3_22 : Int32) (md_22 : ar) (H : Heap) (locs : List Loc) (ls : Array Slot), sat (f_X1_takeAway_L22 x1 x2 n x3_22 md_22) T22 → wd D A s.heap H locs [(a0, .inr (1, [.ref a1, .ref a3, .ref a4, .ref a5, .ref a6, .ref a7, .ref a8, .int wz, .int tm])), (a1, .inr (3, [.ref a2, .int r_1.1])), (a2, .inl (cI, 36, .inl r_1.2)), (a3, .inl (cI, 36, .inl (upd hp r_2.toNatClampNeg 0))), (a5, .inl (cI, 216, .inl md_22))] → lv_has ls 4 [(0, .ref a0), (1, .int x1), (2, .int x2), (3, .int x3_22)] → W p l e rm_X1_takeAway s m args below meth c H locs 0 0 Q (F0 m 22 ls []) := by
    intro n
    induction n with
    | zero =>
      intro x3_22 md_22 H locs ls h
      rw [f_X1_takeAway_L22] at h
      exact (sat_none h).elim
    | succ n ih =>
      intro x3_22 md_22 H locs ls h w hl
      rw [f_X1_takeAway_L22] at h
      refine lv_iload_n hx hb dX1_takeAway_22 rfl (lv_at hl 3 rfl) ?_
      refine lv_bipush (v := 6) hx hb dX1_takeAway_23 (by decide) ?_
      refine lv_icmp_ge (tgt := 58) hx hb dX1_takeAway_25 (by decide) (fun c25 => ?_) (fun c25 => ?_)
      · have h := sat_t c25 h
        exact E22 md_22 _ _ _ (sat_some h) w (lv_sub hl [] rfl)
      · have h := sat_f c25 h
        refine lv_aload_n hx hb dX1_takeAway_28 rfl (lv_at hl 0 rfl) ?_
        refine gf_X1_25 hx hb hown hk w.1 0 rfl rfl dX1_takeAway_29 ?_
        refine lv_iload_n hx hb dX1_takeAway_32 rfl (lv_at hl 1 rfl) ?_
        refine lv_iload_n hx hb dX1_takeAway_33 rfl (lv_at hl 3 rfl) ?_
        refine lv_iload_n hx hb dX1_takeAway_34 rfl (lv_at hl 2 rfl) ?_
        obtain ⟨r_3, e_3, h⟩ := sat_bind h
        refine cRN (rest := [.ref a5]) hx hb hml hown hk (k_X11_guessCell l D cI cZ cK x1 x3_22 x2 r_3 e_3) (me_X11_guessCell hk.2.1) (ms_X11_guessCell hk.2.1) (hk.2.2.1 (RX1, 68, yX11_guessCell) (List.mem_of_getElem? (i := 7) rfl)) (w.1.sub [] rfl) hl.1 rfl rfl (Nat.le_of_ble_eq_true rfl) ⟨rfl, rfl, Nat.le_of_ble_eq_true rfl, Nat.le_of_ble_eq_true rfl, Nat.zero_le _, Nat.zero_le _⟩ dX1_takeAway_35 ?_
        refine lv_iconst (v := 0) hx hb dX1_takeAway_38 (by decide) ?_
        obtain ⟨hi, h⟩ := sat_in h
        refine ra_ist (ws' := [(a0, .inr (1, [.ref a1, .ref a3, .ref a4, .ref a5, .ref a6, .ref a7, .ref a8, .int wz, .int tm])), (a1, .inr (3, [.ref a2, .int r_1.1])), (a2, .inl (cI, 36, .inl r_1.2)), (a3, .inl (cI, 36, .inl (upd hp r_2.toNatClampNeg 0))), (a5, .inl (cI, 216, .inl (upd md_22 r_3.toNatClampNeg 0)))]) hx hb hk w 4 rfl hi rfl dX1_takeAway_39 (fun H locs w => ?_)
        refine lv_aload_n hx hb dX1_takeAway_40 rfl (lv_at hl 0 rfl) ?_
        refine gf_X1_25 hx hb hown hk w.1 0 rfl rfl dX1_takeAway_41 ?_
        refine lv_iload_n hx hb dX1_takeAway_44 rfl (lv_at hl 2 rfl) ?_
        refine lv_iload_n hx hb dX1_takeAway_45 rfl (lv_at hl 3 rfl) ?_
        refine lv_iload_n hx hb dX1_takeAway_46 rfl (lv_at hl 1 rfl) ?_
        obtain ⟨r_4, e_4, h⟩ := sat_bind h
        refine cRN (rest := [.ref a5]) hx hb hml hown hk (k_X11_guessCell l D cI cZ cK x2 x3_22 x1 r_4 e_4) (me_X11_guessCell hk.2.1) (ms_X11_guessCell hk.2.1) (hk.2.2.1 (RX1, 68, yX11_guessCell) (List.mem_of_getElem? (i := 7) rfl)) (w.1.sub [] rfl) hl.1 rfl rfl (Nat.le_of_ble_eq_true rfl) ⟨rfl, rfl, Nat.le_of_ble_eq_true rfl, Nat.le_of_ble_eq_true rfl, Nat.zero_le _, Nat.zero_le _⟩ dX1_takeAway_47 ?_
        refine lv_iconst (v := 0) hx hb dX1_takeAway_50 (by decide) ?_
        obtain ⟨hi, h⟩ := sat_in h
        refine ra_ist (ws' := [(a0, .inr (1, [.ref a1, .ref a3, .ref a4, .ref a5, .ref a6, .ref a7, .ref a8, .int wz, .int tm])), (a1, .inr (3, [.ref a2, .int r_1.1])), (a2, .inl (cI, 36, .inl r_1.2)), (a3, .inl (cI, 36, .inl (upd hp r_2.toNatClampNeg 0))), (a5, .inl (cI, 216, .inl (upd (upd md_22 r_3.toNatClampNeg 0) r_4.toNatClampNeg 0)))]) hx hb hk w 4 rfl hi rfl dX1_takeAway_51 (fun H locs w => ?_)
        refine lv_iinc (v := x3_22 + 1) (lv' := [(3, .int (x3_22 + 1)), (0, .ref a0), (1, .int x1), (2, .int x2)]) hx hb dX1_takeAway_52 hl (k := 3) rfl (congrArg (fun z => x3_22 + z) (by decide)) (by decide) rfl (fun ls hl => ?_)
        refine lv_goto (tgt := 22) hx hb dX1_takeAway_55 (by decide) ?_
        exact ih (x3_22 + 1) (upd (upd md_22 r_3.toNatClampNeg 0) r_4.toNatClampNeg 0) _ _ _ h w (lv_sub hl [1, 2, 3, 0] rfl)
  exact L22 N 0 md _ _ _ h w (lv_sub hl [1, 2, 3, 0] rfl)
def f_X1_addToWay (wn : ar) (wz : Int32) (x1 : Int32) : Option (Int32 × ar) := if 100 < wz then some (wz, wn) else ck (inb wz 101) (some (wz + 1, upd wn wz.toNatClampNeg x1))
abbrev rm_X1_addToWay : Room := { frames := 0, cells := 0, slots := 0, locals := 0 }
set_option maxRecDepth 100000 in
set_option maxHeartbeats 4000000 in
theorem k_X1_addToWay (l : Launch) (D : va_G) (cI cZ cK : ClassId) (a0 a1 a3 a4 a5 a6 a7 a8 : Nat) (wz : Int32) (tm : Int32) (wn : ar) (x1 : Int32) (R : Int32 × ar) (h : f_X1_addToWay wn wz x1 = some R) : Mu l D cI cZ cK yX1_addToWay cX1_addToWay 2 none rm_X1_addToWay [.ref a0, .int x1] [(a0, .inr (1, [.ref a1, .ref a3, .ref a4, .ref a5, .ref a6, .ref a7, .ref a8, .int wz, .int tm])), (a8, .inl (cI, 101, .inl wn))] none [(a0, .inr (1, [.ref a1, .ref a3, .ref a4, .ref a5, .ref a6, .ref a7, .ref a8, .int R.1, .int tm])), (a8, .inl (cI, 101, .inl R.2))] := by
  refine mv_of (by decide) (Nat.le_of_ble_eq_true rfl) ?_
  intro p e s m args below meth c Q A ls hx hb hml hown hk hA w hret hl
  have hl : lv_has ls 2 [(0, .ref a0), (1, .int x1)] := hl
  obtain ⟨C0, hC0, h⟩ := sat_top h
  unfold f_X1_addToWay at h
  refine lv_aload_n hx hb dX1_addToWay_0 rfl (lv_at hl 0 rfl) ?_
  refine gf_X1_47 hx hb hown hk w.1 0 rfl rfl dX1_addToWay_1 ?_
  refine lv_bipush (v := 100) hx hb dX1_addToWay_4 (by decide) ?_
  refine lv_icmp_gt (tgt := 29) hx hb dX1_addToWay_6 (by decide) (fun c6 => ?_) (fun c6 => ?_)
  · have h := sat_t c6 h
    have hR := hC0 _ (sat_some h)
    subst hR
    exact hret _ _ _ _ w dX1_addToWay_29
  · have h := sat_f c6 h
    refine lv_aload_n hx hb dX1_addToWay_9 rfl (lv_at hl 0 rfl) ?_
    refine gf_X1_34 hx hb hown hk w.1 0 rfl rfl dX1_addToWay_10 ?_
    refine lv_aload_n hx hb dX1_addToWay_13 rfl (lv_at hl 0 rfl) ?_
    refine gf_X1_47 hx hb hown hk w.1 0 rfl rfl dX1_addToWay_14 ?_
    refine lv_iload_n hx hb dX1_addToWay_17 rfl (lv_at hl 1 rfl) ?_
    obtain ⟨hi, h⟩ := sat_in h
    refine ra_ist (ws' := [(a0, .inr (1, [.ref a1, .ref a3, .ref a4, .ref a5, .ref a6, .ref a7, .ref a8, .int wz, .int tm])), (a8, .inl (cI, 101, .inl (upd wn wz.toNatClampNeg x1)))]) hx hb hk w 1 rfl hi rfl dX1_addToWay_18 (fun H locs w => ?_)
    refine lv_aload_n hx hb dX1_addToWay_19 rfl (lv_at hl 0 rfl) ?_
    refine lv_dup hx hb dX1_addToWay_20 rfl ?_
    refine gf_X1_47 hx hb hown hk w.1 0 rfl rfl dX1_addToWay_21 ?_
    refine lv_iconst (v := 1) hx hb dX1_addToWay_24 (by decide) ?_
    refine lv_iadd hx hb dX1_addToWay_25 ?_
    refine pf_X1_47 (ws' := [(a0, .inr (1, [.ref a1, .ref a3, .ref a4, .ref a5, .ref a6, .ref a7, .ref a8, .int (wz + 1), .int tm])), (a8, .inl (cI, 101, .inl (upd wn wz.toNatClampNeg x1)))]) hx hb hown hk w 0 rfl (Nat.le_of_ble_eq_true rfl) rfl dX1_addToWay_26 (fun H locs w => ?_)
    have hR := hC0 _ (sat_some h)
    subst hR
    exact hret _ _ _ _ w dX1_addToWay_29
def f_X1_countHop (hp : ar) (wn : ar) (wz : Int32) (x1 : Int32) (x2 : Int32) : Option (Int32 × ar × ar) := Option.bind (f_X11_pairCell (if x2 < x1 then x2 else x1) (if x1 < x2 then x2 else x1)) fun r_1 => ck (inb r_1 36) (ck (inb r_1 36) (Option.bind (f_X1_addToWay wn wz x2) fun r_2 => some (r_2.1, upd hp r_1.toNatClampNeg ((hp r_1.toNatClampNeg) + 1), r_2.2)))
abbrev rm_X1_countHop : Room := { frames := 1, cells := 0, slots := 0, locals := 21 }
set_option maxRecDepth 100000 in
set_option maxHeartbeats 4000000 in
theorem k_X1_countHop (l : Launch) (D : va_G) (cI cZ cK : ClassId) (a0 a1 a3 a4 a5 a6 a7 a8 : Nat) (wz : Int32) (tm : Int32) (hp : ar) (wn : ar) (x1 : Int32) (x2 : Int32) (R : Int32 × ar × ar) (h : f_X1_countHop hp wn wz x1 x2 = some R) : Mu l D cI cZ cK yX1_countHop cX1_countHop 3 none rm_X1_countHop [.ref a0, .int x1, .int x2] [(a0, .inr (1, [.ref a1, .ref a3, .ref a4, .ref a5, .ref a6, .ref a7, .ref a8, .int wz, .int tm])), (a3, .inl (cI, 36, .inl hp)), (a8, .inl (cI, 101, .inl wn))] none [(a0, .inr (1, [.ref a1, .ref a3, .ref a4, .ref a5, .ref a6, .ref a7, .ref a8, .int R.1, .int tm])), (a3, .inl (cI, 36, .inl R.2.1)), (a8, .inl (cI, 101, .inl R.2.2))] := by
  refine mv_of (by decide) (Nat.le_of_ble_eq_true rfl) ?_
  intro p e s m args below meth c Q A ls hx hb hml hown hk hA w hret hl
  have hl : lv_has ls 3 [(0, .ref a0), (1, .int x1), (2, .int x2)] := hl
  obtain ⟨C0, hC0, h⟩ := sat_top h
  unfold f_X1_countHop at h
  refine lv_aload_n hx hb dX1_countHop_0 rfl (lv_at hl 0 rfl) ?_
  refine gf_X1_18 hx hb hown hk w.1 0 rfl rfl dX1_countHop_1 ?_
  refine lv_iload_n hx hb dX1_countHop_4 rfl (lv_at hl 1 rfl) ?_
  refine lv_iload_n hx hb dX1_countHop_5 rfl (lv_at hl 2 rfl) ?_
  refine mm_X1_72 hx hb hml hl.1 hown hk ⟨Nat.le_of_ble_eq_true rfl, Nat.le_of_ble_eq_true rfl, Nat.zero_le _, Nat.zero_le _⟩ rfl dX1_countHop_6 ?_
  refine lv_iload_n hx hb dX1_countHop_9 rfl (lv_at hl 1 rfl) ?_
  refine lv_iload_n hx hb dX1_countHop_10 rfl (lv_at hl 2 rfl) ?_
  refine mm_X1_77 hx hb hml hl.1 hown hk ⟨Nat.le_of_ble_eq_true rfl, Nat.le_of_ble_eq_true rfl, Nat.zero_le _, Nat.zero_le _⟩ rfl dX1_countHop_11 ?_
  obtain ⟨r_1, e_1, h⟩ := sat_bind h
  refine cRN (rest := [.ref a3]) hx hb hml hown hk (k_X11_pairCell l D cI cZ cK (if x2 < x1 then x2 else x1) (if x1 < x2 then x2 else x1) r_1 e_1) (me_X11_pairCell hk.2.1) (ms_X11_pairCell hk.2.1) (hk.2.2.1 (RX1, 64, yX11_pairCell) (List.mem_of_getElem? (i := 6) rfl)) (w.1.sub [] rfl) hl.1 rfl rfl (Nat.le_of_ble_eq_true rfl) ⟨rfl, rfl, Nat.le_of_ble_eq_true rfl, Nat.le_of_ble_eq_true rfl, Nat.zero_le _, Nat.zero_le _⟩ dX1_countHop_14 ?_
  refine lv_dup2_11 hx hb dX1_countHop_17 rfl rfl ?_
  obtain ⟨hi, h⟩ := sat_in h
  refine va_iald hx hb hk.1 w.1 1 0 rfl rfl hi dX1_countHop_18 ?_
  refine lv_iconst (v := 1) hx hb dX1_countHop_19 (by decide) ?_
  refine lv_iadd hx hb dX1_countHop_20 ?_
  obtain ⟨hi, h⟩ := sat_in h
  refine ra_ist (ws' := [(a0, .inr (1, [.ref a1, .ref a3, .ref a4, .ref a5, .ref a6, .ref a7, .ref a8, .int wz, .int tm])), (a3, .inl (cI, 36, .inl (upd hp r_1.toNatClampNeg ((hp r_1.toNatClampNeg) + 1)))), (a8, .inl (cI, 101, .inl wn))]) hx hb hk w 1 rfl hi rfl dX1_countHop_21 (fun H locs w => ?_)
  refine lv_aload_n hx hb dX1_countHop_22 rfl (lv_at hl 0 rfl) ?_
  refine lv_iload_n hx hb dX1_countHop_23 rfl (lv_at hl 2 rfl) ?_
  obtain ⟨r_2, e_2, h⟩ := sat_bind h
  refine cMV (rest := []) (wr := [(a3, .inl (cI, 36, .inl (upd hp r_1.toNatClampNeg ((hp r_1.toNatClampNeg) + 1))))]) (ws' := [(a0, .inr (1, [.ref a1, .ref a3, .ref a4, .ref a5, .ref a6, .ref a7, .ref a8, .int r_2.1, .int tm])), (a3, .inl (cI, 36, .inl (upd hp r_1.toNatClampNeg ((hp r_1.toNatClampNeg) + 1)))), (a8, .inl (cI, 101, .inl r_2.2))]) hx hb hml hown hk w hA (k_X1_addToWay l D cI cZ cK a0 a1 a3 a4 a5 a6 a7 a8 wz tm wn x2 r_2 e_2) (me_X1_addToWay hk.2.1) (mi_X1_addToWay hk.2.1) (ml_X1_80 hk.2.1) ((pmn 3 [0, 2, 1] rfl rfl (by decide))) ((pmn 3 [0, 2, 1] rfl rfl (by decide))) 0 rfl rfl rfl hl.1 rfl rfl (Nat.le_of_ble_eq_true rfl) ⟨rfl, rfl, Nat.le_of_ble_eq_true rfl, Nat.le_of_ble_eq_true rfl, Nat.zero_le _, Nat.zero_le _⟩ dX1_countHop_24 (fun H locs w => ?_)
  refine W.eq (g2 := F0 m 27 ls []) rfl ?_
  have hR := hC0 _ (sat_some h)
  subst hR
  exact hret _ _ _ _ w dX1_countHop_27
