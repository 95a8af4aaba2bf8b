def f_X4_push (rv : Nat → Nat → ar) (la : Int32) (ps : Int32) (odl : ar) (olt : Int32) (ohp : ar) (ogs : ar) (omd : ar) (oct : ar) (oxp : ar) (own : ar) (owz : Int32) (otm : Int32) : Option (Int32 × Int32 × (Nat → Nat → ar)) := Option.bind (α := Int32) (if 8 ≤ (la + 1) then some 0 else some (la + 1)) fun j9 => ck (inb j9 8) (Option.bind (f_X1_copyFrom (rv j9.toNatClampNeg 0) (rv j9.toNatClampNeg 1) (rv j9.toNatClampNeg 2) (rv j9.toNatClampNeg 3) (rv j9.toNatClampNeg 4) (rv j9.toNatClampNeg 5) (rv j9.toNatClampNeg 6) odl olt ohp ogs omd oct oxp own owz otm) fun r_2 => if 8 ≤ ps then some (j9, ps, va_up rv j9.toNatClampNeg (kvT r_2.2.2.2.1 r_2.2.2.2.2.1 r_2.2.2.2.2.2.1 r_2.2.2.2.2.2.2.1 r_2.2.2.2.2.2.2.2.1 r_2.2.2.2.2.2.2.2.2.1 r_2.2.2.2.2.2.2.2.2.2 r_2.2.2.1 r_2.1 r_2.2.1)) else some (j9, ps + 1, va_up rv j9.toNatClampNeg (kvT r_2.2.2.2.1 r_2.2.2.2.2.1 r_2.2.2.2.2.2.1 r_2.2.2.2.2.2.2.1 r_2.2.2.2.2.2.2.2.1 r_2.2.2.2.2.2.2.2.2.1 r_2.2.2.2.2.2.2.2.2.2 r_2.2.2.1 r_2.1 r_2.2.1)))
abbrev rm_X4_push : Room := { frames := 3, cells := 0, slots := 0, locals := 60 }
set_option maxRecDepth 100000 in
set_option maxHeartbeats 4000000 in
theorem k_X4_push (l : Launch) (D : va_G) (cI cZ cK : ClassId) (a0 a1 b0 a2 a4 a5 a6 a7 a8 a9 a3 : Nat) (rga : Nat → Nat → Nat) (la : Int32) (ps : Int32) (owz : Int32) (otm : Int32) (olt : Int32) (odl : ar) (ohp : ar) (ogs : ar) (omd : ar) (oct : ar) (oxp : ar) (own : ar) (rv : Nat → Nat → ar) (R : Int32 × Int32 × (Nat → Nat → ar)) (h : f_X4_push rv la ps odl olt ohp ogs omd oct oxp own owz otm = some R) : Mu l D cI cZ cK yX4_push cX4_push 2 none rm_X4_push [.ref a0, .ref b0] ([(a0, .inr (4, [.ref a1, .int la, .int ps])), (a1, .inl (cK, 8, .inr (.inr (.inr (.inr (fun j => some (rga j 0))))))), (b0, .inr (1, [.ref a2, .ref a4, .ref a5, .ref a6, .ref a7, .ref a8, .ref a9, .int owz, .int otm])), (a2, .inr (3, [.ref a3, .int olt])), (a3, .inl (cI, 36, .inl odl)), (a4, .inl (cI, 36, .inl ohp)), (a5, .inl (cI, 216, .inl ogs)), (a6, .inl (cI, 216, .inl omd)), (a7, .inl (cI, 6, .inl oct)), (a8, .inl (cI, 6, .inl oxp)), (a9, .inl (cI, 101, .inl own))] ++ rc cI rga rv 8) none ([(a0, .inr (4, [.ref a1, .int R.1, .int R.2.1])), (a1, .inl (cK, 8, .inr (.inr (.inr (.inr (fun j => some (rga j 0))))))), (b0, .inr (1, [.ref a2, .ref a4, .ref a5, .ref a6, .ref a7, .ref a8, .ref a9, .int owz, .int otm])), (a2, .inr (3, [.ref a3, .int olt])), (a3, .inl (cI, 36, .inl odl)), (a4, .inl (cI, 36, .inl ohp)), (a5, .inl (cI, 216, .inl ogs)), (a6, .inl (cI, 216, .inl omd)), (a7, .inl (cI, 6, .inl oct)), (a8, .inl (cI, 6, .inl oxp)), (a9, .inl (cI, 101, .inl own))] ++ rc cI rga R.2.2 8) := by
  refine mv_of (by decide) (Nat.le_of_ble_eq_true rfl) ?_
  intro p e s m args below meth c Q A ls hx hb hml hown hk hA w hret hl
  have hl : lv_has ls 2 [(0, .ref a0), (1, .ref b0)] := hl
  obtain ⟨C0, hC0, h⟩ := sat_top h
  unfold f_X4_push at h
  refine lv_aload_n hx hb dX4_push_0 rfl (lv_at hl 0 rfl) ?_
  refine lv_aload_n hx hb dX4_push_1 rfl (lv_at hl 0 rfl) ?_
  refine gf_X4_18 hx hb hown hk w.1 0 rfl rfl dX4_push_2 ?_
  refine lv_iconst (v := 1) hx hb dX4_push_5 (by decide) ?_
  refine lv_iadd hx hb dX4_push_6 ?_
  refine lv_bipush (v := 8) hx hb dX4_push_7 (by decide) ?_
  obtain ⟨T9, hT9, h⟩ := sat_reg h
  have J9 : ∀ (j_1 : Int32) (H : Heap) (locs : List Loc) (ls : Array Slot), T9 j_1 → wd D A s.heap H locs ([(a0, .inr (4, [.ref a1, .int la, .int ps])), (a1, .inl (cK, 8, .inr (.inr (.inr (.inr (fun j => some (rga j 0))))))), (b0, .inr (1, [.ref a2, .ref a4, .ref a5, .ref a6, .ref a7, .ref a8, .ref a9, .int owz, .int otm])), (a2, .inr (3, [.ref a3, .int olt])), (a3, .inl (cI, 36, .inl odl)), (a4, .inl (cI, 36, .inl ohp)), (a5, .inl (cI, 216, .inl ogs)), (a6, .inl (cI, 216, .inl omd)), (a7, .inl (cI, 6, .inl oct)), (a8, .inl (cI, 6, .inl oxp)), (a9, .inl (cI, 101, .inl own))] ++ rc cI rga rv 8) → lv_has ls 2 [(0, .ref a0), (1, .ref b0)] → W p l e rm_X4_push s m args below meth c H locs 0 0 Q (F0 m 22 ls [.int j_1, .ref a0]) := by
    intro j_1 H locs ls h w hl
    have h := hT9 _ h
    refine pf_X4_18 (ws' := ([(a0, .inr (4, [.ref a1, .int j_1, .int ps])), (a1, .inl (cK, 8, .inr (.inr (.inr (.inr (fun j => some (rga j 0))))))), (b0, .inr (1, [.ref a2, .ref a4, .ref a5, .ref a6, .ref a7, .ref a8, .ref a9, .int owz, .int otm])), (a2, .inr (3, [.ref a3, .int olt])), (a3, .inl (cI, 36, .inl odl)), (a4, .inl (cI, 36, .inl ohp)), (a5, .inl (cI, 216, .inl ogs)), (a6, .inl (cI, 216, .inl omd)), (a7, .inl (cI, 6, .inl oct)), (a8, .inl (cI, 6, .inl oxp)), (a9, .inl (cI, 101, .inl own))] ++ rc cI rga rv 8)) hx hb hown hk w 0 rfl (Nat.le_of_ble_eq_true rfl) rfl dX4_push_22 (fun H locs w => ?_)
    refine lv_aload_n hx hb dX4_push_25 rfl (lv_at hl 0 rfl) ?_
    refine gf_X4_11 hx hb hown hk w.1 0 rfl rfl dX4_push_26 ?_
    refine lv_aload_n hx hb dX4_push_29 rfl (lv_at hl 0 rfl) ?_
    refine gf_X4_18 hx hb hown hk w.1 0 rfl rfl dX4_push_30 ?_
    obtain ⟨hi33, h⟩ := sat_in h
    refine va_aldq hx hb hk.1 w.1 1 2 rfl rfl hi33 dX4_push_33 ?_
    refine W.eq (g2 := F0 m 34 ls [.ref (rga j_1.toNatClampNeg 0)]) rfl ?_
    refine lv_aload_n hx hb dX4_push_34 rfl (lv_at hl 1 rfl) ?_
    obtain ⟨r_2, e_2, h⟩ := sat_bind h
    refine cMV (rest := []) (wr := ([(a0, .inr (4, [.ref a1, .int j_1, .int ps])), (a1, .inl (cK, 8, .inr (.inr (.inr (.inr (fun j => some (rga j 0)))))))] ++ rx cI rga rv 8 j_1.toNatClampNeg)) (ws' := ([(a0, .inr (4, [.ref a1, .int j_1, .int ps])), (a1, .inl (cK, 8, .inr (.inr (.inr (.inr (fun j => some (rga j 0))))))), (b0, .inr (1, [.ref a2, .ref a4, .ref a5, .ref a6, .ref a7, .ref a8, .ref a9, .int owz, .int otm])), (a2, .inr (3, [.ref a3, .int olt])), (a3, .inl (cI, 36, .inl odl)), (a4, .inl (cI, 36, .inl ohp)), (a5, .inl (cI, 216, .inl ogs)), (a6, .inl (cI, 216, .inl omd)), (a7, .inl (cI, 6, .inl oct)), (a8, .inl (cI, 6, .inl oxp)), (a9, .inl (cI, 101, .inl own))] ++ rc cI rga (va_up rv j_1.toNatClampNeg (kvT r_2.2.2.2.1 r_2.2.2.2.2.1 r_2.2.2.2.2.2.1 r_2.2.2.2.2.2.2.1 r_2.2.2.2.2.2.2.2.1 r_2.2.2.2.2.2.2.2.2.1 r_2.2.2.2.2.2.2.2.2.2 r_2.2.2.1 r_2.1 r_2.2.1)) 8)) hx hb hml hown hk w hA (k_X1_copyFrom l D cI cZ cK (rga j_1.toNatClampNeg 0) (rga j_1.toNatClampNeg 1) (rga j_1.toNatClampNeg 3) (rga j_1.toNatClampNeg 4) (rga j_1.toNatClampNeg 5) (rga j_1.toNatClampNeg 6) (rga j_1.toNatClampNeg 7) (rga j_1.toNatClampNeg 8) (rga j_1.toNatClampNeg 2) b0 a2 a4 a5 a6 a7 a8 a9 a3 (rv j_1.toNatClampNeg 7 1) (rv j_1.toNatClampNeg 7 2) (rv j_1.toNatClampNeg 7 0) (rv j_1.toNatClampNeg 0) (rv j_1.toNatClampNeg 1) (rv j_1.toNatClampNeg 2) (rv j_1.toNatClampNeg 3) (rv j_1.toNatClampNeg 4) (rv j_1.toNatClampNeg 5) (rv j_1.toNatClampNeg 6) owz otm olt odl ohp ogs omd oct oxp own r_2 e_2) (me_X1_copyFrom hk.2.1) (mi_X1_copyFrom hk.2.1) (ml_X4_22 hk.2.1) (pm_in (pmn 11 [2, 3, 4, 5, 6, 7, 8, 9, 10, 0, 1] rfl rfl (by decide)) (rc_take (vp_lt hi33))) (pm_out (pmn 11 [9, 10, 0, 1, 2, 3, 4, 5, 6, 7, 8] rfl rfl (by decide)) (rc_put (k := (kvT r_2.2.2.2.1 r_2.2.2.2.2.1 r_2.2.2.2.2.2.1 r_2.2.2.2.2.2.2.1 r_2.2.2.2.2.2.2.2.1 r_2.2.2.2.2.2.2.2.2.1 r_2.2.2.2.2.2.2.2.2.2 r_2.2.2.1 r_2.1 r_2.2.1)) (vp_lt hi33))) 0 rfl rfl rfl hl.1 rfl rfl (Nat.le_of_ble_eq_true rfl) ⟨rfl, rfl, Nat.le_of_ble_eq_true rfl, Nat.le_of_ble_eq_true rfl, Nat.zero_le _, Nat.zero_le _⟩ dX4_push_35 (fun H locs w => ?_)
    refine W.eq (g2 := F0 m 38 ls []) rfl ?_
    refine lv_aload_n hx hb dX4_push_38 rfl (lv_at hl 0 rfl) ?_
    refine gf_X4_26 hx hb hown hk w.1 0 rfl rfl dX4_push_39 ?_
    refine lv_bipush (v := 8) hx hb dX4_push_42 (by decide) ?_
    refine lv_icmp_ge (tgt := 57) hx hb dX4_push_44 (by decide) (fun c44 => ?_) (fun c44 => ?_)
    · have h := sat_t c44 h
      have hR := hC0 _ (sat_some h)
      subst hR
      exact hret _ _ _ _ w dX4_push_57
    · have h := sat_f c44 h
      refine lv_aload_n hx hb dX4_push_47 rfl (lv_at hl 0 rfl) ?_
      refine lv_dup hx hb dX4_push_48 rfl ?_
      refine gf_X4_26 hx hb hown hk w.1 0 rfl rfl dX4_push_49 ?_
      refine lv_iconst (v := 1) hx hb dX4_push_52 (by decide) ?_
      refine lv_iadd hx hb dX4_push_53 ?_
      refine pf_X4_26 (ws' := ([(a0, .inr (4, [.ref a1, .int j_1, .int (ps + 1)])), (a1, .inl (cK, 8, .inr (.inr (.inr (.inr (fun j => some (rga j 0))))))), (b0, .inr (1, [.ref a2, .ref a4, .ref a5, .ref a6, .ref a7, .ref a8, .ref a9, .int owz, .int otm])), (a2, .inr (3, [.ref a3, .int olt])), (a3, .inl (cI, 36, .inl odl)), (a4, .inl (cI, 36, .inl ohp)), (a5, .inl (cI, 216, .inl ogs)), (a6, .inl (cI, 216, .inl omd)), (a7, .inl (cI, 6, .inl oct)), (a8, .inl (cI, 6, .inl oxp)), (a9, .inl (cI, 101, .inl own))] ++ rc cI rga (va_up rv j_1.toNatClampNeg (kvT r_2.2.2.2.1 r_2.2.2.2.2.1 r_2.2.2.2.2.2.1 r_2.2.2.2.2.2.2.1 r_2.2.2.2.2.2.2.2.1 r_2.2.2.2.2.2.2.2.2.1 r_2.2.2.2.2.2.2.2.2.2 r_2.2.2.1 r_2.1 r_2.2.1)) 8)) hx hb hown hk w 0 rfl (Nat.le_of_ble_eq_true rfl) rfl dX4_push_54 (fun H locs w => ?_)
      have hR := hC0 _ (sat_some h)
      subst hR
      exact hret _ _ _ _ w dX4_push_57
  refine lv_icmp_ge (tgt := 21) hx hb dX4_push_9 (by decide) (fun c9 => ?_) (fun c9 => ?_)
  · have h := sat_t c9 h
    refine lv_iconst (v := 0) hx hb dX4_push_21 (by decide) ?_
    exact J9 0 _ _ _ (sat_some h) w (lv_sub hl [0, 1] rfl)
  · have h := sat_f c9 h
    refine lv_aload_n hx hb dX4_push_12 rfl (lv_at hl 0 rfl) ?_
    refine gf_X4_18 hx hb hown hk w.1 0 rfl rfl dX4_push_13 ?_
    refine lv_iconst (v := 1) hx hb dX4_push_16 (by decide) ?_
    refine lv_iadd hx hb dX4_push_17 ?_
    refine lv_goto (tgt := 22) hx hb dX4_push_18 (by decide) ?_
    exact J9 (la + 1) _ _ _ (sat_some h) w (lv_sub hl [0, 1] rfl)
def f_X4_pop (rv : Nat → Nat → ar) (la : Int32) (ps : Int32) (odl : ar) (olt : Int32) (ohp : ar) (ogs : ar) (omd : ar) (oct : ar) (oxp : ar) (own : ar) (owz : Int32) (otm : Int32) : Option (Bool × Int32 × Int32 × Int32 × Int32 × Int32 × ar × ar × ar × ar × ar × ar × ar) := if ps = 0 then some (false, la, ps, owz, otm, olt, odl, ohp, ogs, omd, oct, oxp, own) else ck (inb la 8) (Option.bind (f_X1_copyFrom odl ohp ogs omd oct oxp own (rv la.toNatClampNeg 0) (rv la.toNatClampNeg 7 0) (rv la.toNatClampNeg 1) (rv la.toNatClampNeg 2) (rv la.toNatClampNeg 3) (rv la.toNatClampNeg 4) (rv la.toNatClampNeg 5) (rv la.toNatClampNeg 6) (rv la.toNatClampNeg 7 1) (rv la.toNatClampNeg 7 2)) fun r_1 => if la ≤ 0 then some (true, 7, ps - 1, r_1.1, r_1.2.1, r_1.2.2.1, r_1.2.2.2.1, r_1.2.2.2.2.1, r_1.2.2.2.2.2.1, r_1.2.2.2.2.2.2.1, r_1.2.2.2.2.2.2.2.1, r_1.2.2.2.2.2.2.2.2.1, r_1.2.2.2.2.2.2.2.2.2) else some (true, la - 1, ps - 1, r_1.1, r_1.2.1, r_1.2.2.1, r_1.2.2.2.1, r_1.2.2.2.2.1, r_1.2.2.2.2.2.1, r_1.2.2.2.2.2.2.1, r_1.2.2.2.2.2.2.2.1, r_1.2.2.2.2.2.2.2.2.1, r_1.2.2.2.2.2.2.2.2.2))
abbrev rm_X4_pop : Room := { frames := 3, cells := 0, slots := 0, locals := 60 }
set_option maxRecDepth 100000 in
set_option maxHeartbeats 4000000 in
theorem k_X4_pop (l : Launch) (D : va_G) (cI cZ cK : ClassId) (a0 a1 b0 a2 a4 a5 a6 a7 a8 a9 a3 : Nat) (rga : Nat → Nat → Nat) (la : Int32) (ps : Int32) (owz : Int32) (otm : Int32) (olt : Int32) (odl : ar) (ohp : ar) (ogs : ar) (omd : ar) (oct : ar) (oxp : ar) (own : ar) (rv : Nat → Nat → ar) (R : Bool × Int32 × Int32 × Int32 × Int32 × Int32 × ar × ar × ar × ar × ar × ar × ar) (h : f_X4_pop rv la ps odl olt ohp ogs omd oct oxp own owz otm = some R) : Mu l D cI cZ cK yX4_pop cX4_pop 2 (some .boolean) rm_X4_pop [.ref a0, .ref b0] ([(a0, .inr (4, [.ref a1, .int la, .int ps])), (a1, .inl (cK, 8, .inr (.inr (.inr (.inr (fun j => some (rga j 0))))))), (b0, .inr (1, [.ref a2, .ref a4, .ref a5, .ref a6, .ref a7, .ref a8, .ref a9, .int owz, .int otm])), (a2, .inr (3, [.ref a3, .int olt])), (a3, .inl (cI, 36, .inl odl)), (a4, .inl (cI, 36, .inl ohp)), (a5, .inl (cI, 216, .inl ogs)), (a6, .inl (cI, 216, .inl omd)), (a7, .inl (cI, 6, .inl oct)), (a8, .inl (cI, 6, .inl oxp)), (a9, .inl (cI, 101, .inl own))] ++ rc cI rga rv 8) (some (.int (b2i R.1))) ([(a0, .inr (4, [.ref a1, .int R.2.1, .int R.2.2.1])), (a1, .inl (cK, 8, .inr (.inr (.inr (.inr (fun j => some (rga j 0))))))), (b0, .inr (1, [.ref a2, .ref a4, .ref a5, .ref a6, .ref a7, .ref a8, .ref a9, .int R.2.2.2.1, .int R.2.2.2.2.1])), (a2, .inr (3, [.ref a3, .int R.2.2.2.2.2.1])), (a3, .inl (cI, 36, .inl R.2.2.2.2.2.2.1)), (a4, .inl (cI, 36, .inl R.2.2.2.2.2.2.2.1)), (a5, .inl (cI, 216, .inl R.2.2.2.2.2.2.2.2.1)), (a6, .inl (cI, 216, .inl R.2.2.2.2.2.2.2.2.2.1)), (a7, .inl (cI, 6, .inl R.2.2.2.2.2.2.2.2.2.2.1)), (a8, .inl (cI, 6, .inl R.2.2.2.2.2.2.2.2.2.2.2.1)), (a9, .inl (cI, 101, .inl R.2.2.2.2.2.2.2.2.2.2.2.2))] ++ rc cI rga rv 8) := by
  refine mi_of (by decide) (nar_b _) (Nat.le_of_ble_eq_true rfl) ?_
  intro p e s m args below meth c Q A ls hx hb hml hown hk hA w hret hl
  have hl : lv_has ls 2 [(0, .ref a0), (1, .ref b0)] := hl
  obtain ⟨C0, hC0, h⟩ := sat_top h
  unfold f_X4_pop at h
  refine lv_aload_n hx hb dX4_pop_0 rfl (lv_at hl 0 rfl) ?_
  refine gf_X4_26 hx hb hown hk w.1 0 rfl rfl dX4_pop_1 ?_
  refine lv_if_ne (tgt := 9) hx hb dX4_pop_4 (by decide) (fun c4 => ?_) (fun c4 => ?_)
  · have h := sat_f c4 h
    refine lv_aload_n hx hb dX4_pop_9 rfl (lv_at hl 1 rfl) ?_
    refine lv_aload_n hx hb dX4_pop_10 rfl (lv_at hl 0 rfl) ?_
    refine gf_X4_11 hx hb hown hk w.1 0 rfl rfl dX4_pop_11 ?_
    refine lv_aload_n hx hb dX4_pop_14 rfl (lv_at hl 0 rfl) ?_
    refine gf_X4_18 hx hb hown hk w.1 0 rfl rfl dX4_pop_15 ?_
    obtain ⟨hi18, h⟩ := sat_in h
    refine va_aldq hx hb hk.1 w.1 1 2 rfl rfl hi18 dX4_pop_18 ?_
    refine W.eq (g2 := F0 m 19 ls [.ref (rga la.toNatClampNeg 0), .ref b0]) rfl ?_
    obtain ⟨r_1, e_1, h⟩ := sat_bind h
    refine cMV (rest := []) (wr := ([(a0, .inr (4, [.ref a1, .int la, .int ps])), (a1, .inl (cK, 8, .inr (.inr (.inr (.inr (fun j => some (rga j 0)))))))] ++ rx cI rga rv 8 la.toNatClampNeg)) (ws' := ([(a0, .inr (4, [.ref a1, .int la, .int ps])), (a1, .inl (cK, 8, .inr (.inr (.inr (.inr (fun j => some (rga j 0))))))), (b0, .inr (1, [.ref a2, .ref a4, .ref a5, .ref a6, .ref a7, .ref a8, .ref a9, .int r_1.1, .int r_1.2.1])), (a2, .inr (3, [.ref a3, .int r_1.2.2.1])), (a3, .inl (cI, 36, .inl r_1.2.2.2.1)), (a4, .inl (cI, 36, .inl r_1.2.2.2.2.1)), (a5, .inl (cI, 216, .inl r_1.2.2.2.2.2.1)), (a6, .inl (cI, 216, .inl r_1.2.2.2.2.2.2.1)), (a7, .inl (cI, 6, .inl r_1.2.2.2.2.2.2.2.1)), (a8, .inl (cI, 6, .inl r_1.2.2.2.2.2.2.2.2.1)), (a9, .inl (cI, 101, .inl r_1.2.2.2.2.2.2.2.2.2))] ++ rc cI rga rv 8)) hx hb hml hown hk w hA (k_X1_copyFrom l D cI cZ cK b0 a2 a4 a5 a6 a7 a8 a9 a3 (rga la.toNatClampNeg 0) (rga la.toNatClampNeg 1) (rga la.toNatClampNeg 3) (rga la.toNatClampNeg 4) (rga la.toNatClampNeg 5) (rga la.toNatClampNeg 6) (rga la.toNatClampNeg 7) (rga la.toNatClampNeg 8) (rga la.toNatClampNeg 2) owz otm olt odl ohp ogs omd oct oxp own (rv la.toNatClampNeg 7 1) (rv la.toNatClampNeg 7 2) (rv la.toNatClampNeg 7 0) (rv la.toNatClampNeg 0) (rv la.toNatClampNeg 1) (rv la.toNatClampNeg 2) (rv la.toNatClampNeg 3) (rv la.toNatClampNeg 4) (rv la.toNatClampNeg 5) (rv la.toNatClampNeg 6) r_1 e_1) (me_X1_copyFrom hk.2.1) (mi_X1_copyFrom hk.2.1) (ml_X4_22 hk.2.1) (pm_in2 (K := [(b0, .inr (1, [.ref a2, .ref a4, .ref a5, .ref a6, .ref a7, .ref a8, .ref a9, .int owz, .int otm])), (a2, .inr (3, [.ref a3, .int olt])), (a3, .inl (cI, 36, .inl odl)), (a4, .inl (cI, 36, .inl ohp)), (a5, .inl (cI, 216, .inl ogs)), (a6, .inl (cI, 216, .inl omd)), (a7, .inl (cI, 6, .inl oct)), (a8, .inl (cI, 6, .inl oxp)), (a9, .inl (cI, 101, .inl own))]) (kj := kc cI (rga la.toNatClampNeg) (rv la.toNatClampNeg)) (pmn 11 [2, 3, 4, 5, 6, 7, 8, 9, 10, 0, 1] rfl rfl (by decide)) (rc_take (vp_lt hi18))) (pm_out2 (K := [(b0, .inr (1, [.ref a2, .ref a4, .ref a5, .ref a6, .ref a7, .ref a8, .ref a9, .int r_1.1, .int r_1.2.1])), (a2, .inr (3, [.ref a3, .int r_1.2.2.1])), (a3, .inl (cI, 36, .inl r_1.2.2.2.1)), (a4, .inl (cI, 36, .inl r_1.2.2.2.2.1)), (a5, .inl (cI, 216, .inl r_1.2.2.2.2.2.1)), (a6, .inl (cI, 216, .inl r_1.2.2.2.2.2.2.1)), (a7, .inl (cI, 6, .inl r_1.2.2.2.2.2.2.2.1)), (a8, .inl (cI, 6, .inl r_1.2.2.2.2.2.2.2.2.1)), (a9, .inl (cI, 101, .inl r_1.2.2.2.2.2.2.2.2.2))]) (kj := kc cI (rga la.toNatClampNeg) (rv la.toNatClampNeg)) (pmn 11 [9, 10, 0, 1, 2, 3, 4, 5, 6, 7, 8] rfl rfl (by decide)) (rc_take (vp_lt hi18)).symm) 0 rfl rfl rfl hl.1 rfl rfl (Nat.le_of_ble_eq_true rfl) ⟨rfl, rfl, Nat.le_of_ble_eq_true rfl, Nat.le_of_ble_eq_true rfl, Nat.zero_le _, Nat.zero_le _⟩ dX4_pop_19 (fun H locs w => ?_)
    refine W.eq (g2 := F0 m 22 ls []) rfl ?_
    refine lv_aload_n hx hb dX4_pop_22 rfl (lv_at hl 0 rfl) ?_
    refine lv_aload_n hx hb dX4_pop_23 rfl (lv_at hl 0 rfl) ?_
    refine gf_X4_18 hx hb hown hk w.1 0 rfl rfl dX4_pop_24 ?_
    refine lv_if_le (tgt := 39) hx hb dX4_pop_27 (by decide) (fun c27 => ?_) (fun c27 => ?_)
    · have h := sat_t c27 h
      refine lv_bipush (v := 7) hx hb dX4_pop_39 (by decide) ?_
      refine pf_X4_18 (ws' := ([(a0, .inr (4, [.ref a1, .int 7, .int ps])), (a1, .inl (cK, 8, .inr (.inr (.inr (.inr (fun j => some (rga j 0))))))), (b0, .inr (1, [.ref a2, .ref a4, .ref a5, .ref a6, .ref a7, .ref a8, .ref a9, .int r_1.1, .int r_1.2.1])), (a2, .inr (3, [.ref a3, .int r_1.2.2.1])), (a3, .inl (cI, 36, .inl r_1.2.2.2.1)), (a4, .inl (cI, 36, .inl r_1.2.2.2.2.1)), (a5, .inl (cI, 216, .inl r_1.2.2.2.2.2.1)), (a6, .inl (cI, 216, .inl r_1.2.2.2.2.2.2.1)), (a7, .inl (cI, 6, .inl r_1.2.2.2.2.2.2.2.1)), (a8, .inl (cI, 6, .inl r_1.2.2.2.2.2.2.2.2.1)), (a9, .inl (cI, 101, .inl r_1.2.2.2.2.2.2.2.2.2))] ++ rc cI rga rv 8)) hx hb hown hk w 0 rfl (Nat.le_of_ble_eq_true rfl) rfl dX4_pop_41 (fun H locs w => ?_)
      refine lv_aload_n hx hb dX4_pop_44 rfl (lv_at hl 0 rfl) ?_
      refine lv_dup hx hb dX4_pop_45 rfl ?_
      refine gf_X4_26 hx hb hown hk w.1 0 rfl rfl dX4_pop_46 ?_
      refine lv_iconst (v := 1) hx hb dX4_pop_49 (by decide) ?_
      refine lv_isub hx hb dX4_pop_50 ?_
      refine pf_X4_26 (ws' := ([(a0, .inr (4, [.ref a1, .int 7, .int (ps - 1)])), (a1, .inl (cK, 8, .inr (.inr (.inr (.inr (fun j => some (rga j 0))))))), (b0, .inr (1, [.ref a2, .ref a4, .ref a5, .ref a6, .ref a7, .ref a8, .ref a9, .int r_1.1, .int r_1.2.1])), (a2, .inr (3, [.ref a3, .int r_1.2.2.1])), (a3, .inl (cI, 36, .inl r_1.2.2.2.1)), (a4, .inl (cI, 36, .inl r_1.2.2.2.2.1)), (a5, .inl (cI, 216, .inl r_1.2.2.2.2.2.1)), (a6, .inl (cI, 216, .inl r_1.2.2.2.2.2.2.1)), (a7, .inl (cI, 6, .inl r_1.2.2.2.2.2.2.2.1)), (a8, .inl (cI, 6, .inl r_1.2.2.2.2.2.2.2.2.1)), (a9, .inl (cI, 101, .inl r_1.2.2.2.2.2.2.2.2.2))] ++ rc cI rga rv 8)) hx hb hown hk w 0 rfl (Nat.le_of_ble_eq_true rfl) rfl dX4_pop_51 (fun H locs w => ?_)
      refine lv_iconst (v := 1) hx hb dX4_pop_54 (by decide) ?_
      have hR := hC0 _ (sat_some h)
      subst hR
      exact hret _ _ _ _ w dX4_pop_55
    · have h := sat_f c27 h
      refine lv_aload_n hx hb dX4_pop_30 rfl (lv_at hl 0 rfl) ?_
      refine gf_X4_18 hx hb hown hk w.1 0 rfl rfl dX4_pop_31 ?_
      refine lv_iconst (v := 1) hx hb dX4_pop_34 (by decide) ?_
      refine lv_isub hx hb dX4_pop_35 ?_
      refine lv_goto (tgt := 41) hx hb dX4_pop_36 (by decide) ?_
      refine pf_X4_18 (ws' := ([(a0, .inr (4, [.ref a1, .int (la - 1), .int ps])), (a1, .inl (cK, 8, .inr (.inr (.inr (.inr (fun j => some (rga j 0))))))), (b0, .inr (1, [.ref a2, .ref a4, .ref a5, .ref a6, .ref a7, .ref a8, .ref a9, .int r_1.1, .int r_1.2.1])), (a2, .inr (3, [.ref a3, .int r_1.2.2.1])), (a3, .inl (cI, 36, .inl r_1.2.2.2.1)), (a4, .inl (cI, 36, .inl r_1.2.2.2.2.1)), (a5, .inl (cI, 216, .inl r_1.2.2.2.2.2.1)), (a6, .inl (cI, 216, .inl r_1.2.2.2.2.2.2.1)), (a7, .inl (cI, 6, .inl r_1.2.2.2.2.2.2.2.1)), (a8, .inl (cI, 6, .inl r_1.2.2.2.2.2.2.2.2.1)), (a9, .inl (cI, 101, .inl r_1.2.2.2.2.2.2.2.2.2))] ++ rc cI rga rv 8)) hx hb hown hk w 0 rfl (Nat.le_of_ble_eq_true rfl) rfl dX4_pop_41 (fun H locs w => ?_)
      refine lv_aload_n hx hb dX4_pop_44 rfl (lv_at hl 0 rfl) ?_
      refine lv_dup hx hb dX4_pop_45 rfl ?_
      refine gf_X4_26 hx hb hown hk w.1 0 rfl rfl dX4_pop_46 ?_
      refine lv_iconst (v := 1) hx hb dX4_pop_49 (by decide) ?_
      refine lv_isub hx hb dX4_pop_50 ?_
      refine pf_X4_26 (ws' := ([(a0, .inr (4, [.ref a1, .int (la - 1), .int (ps - 1)])), (a1, .inl (cK, 8, .inr (.inr (.inr (.inr (fun j => some (rga j 0))))))), (b0, .inr (1, [.ref a2, .ref a4, .ref a5, .ref a6, .ref a7, .ref a8, .ref a9, .int r_1.1, .int r_1.2.1])), (a2, .inr (3, [.ref a3, .int r_1.2.2.1])), (a3, .inl (cI, 36, .inl r_1.2.2.2.1)), (a4, .inl (cI, 36, .inl r_1.2.2.2.2.1)), (a5, .inl (cI, 216, .inl r_1.2.2.2.2.2.1)), (a6, .inl (cI, 216, .inl r_1.2.2.2.2.2.2.1)), (a7, .inl (cI, 6, .inl r_1.2.2.2.2.2.2.2.1)), (a8, .inl (cI, 6, .inl r_1.2.2.2.2.2.2.2.2.1)), (a9, .inl (cI, 101, .inl r_1.2.2.2.2.2.2.2.2.2))] ++ rc cI rga rv 8)) hx hb hown hk w 0 rfl (Nat.le_of_ble_eq_true rfl) rfl dX4_pop_51 (fun H locs w => ?_)
      refine lv_iconst (v := 1) hx hb dX4_pop_54 (by decide) ?_
      have hR := hC0 _ (sat_some h)
      subst hR
      exact hret _ _ _ _ w dX4_pop_55
  · have h := sat_t c4 h
    refine lv_iconst (v := 0) hx hb dX4_pop_7 (by decide) ?_
    have hR := hC0 _ (sat_some h)
    subst hR
    exact hret _ _ _ _ w dX4_pop_8
def f_X11_keep (dl : ar) (lt : Int32) (hp : ar) (gs : ar) (md : ar) (ct : ar) (xp : ar) (wn : ar) (wz : Int32) (tm : Int32) (iv : Nat → Nat → ar) (ik : ar) (x1 : Int32) : Option (Int32 × ar × (Nat → Nat → ar)) := Option.bind (f_X11_isImage x1) fun r_1 => if (b2i r_1) = 0 then some ((-1), ik, iv) else ck (inb x1 2) (Option.bind (f_X1_copyFrom (iv x1.toNatClampNeg 0) (iv x1.toNatClampNeg 1) (iv x1.toNatClampNeg 2) (iv x1.toNatClampNeg 3) (iv x1.toNatClampNeg 4) (iv x1.toNatClampNeg 5) (iv x1.toNatClampNeg 6) dl lt hp gs md ct xp wn wz tm) fun r_2 => ck (inb x1 2) (some (lt, upd ik x1.toNatClampNeg 1, va_up iv x1.toNatClampNeg (kvT r_2.2.2.2.1 r_2.2.2.2.2.1 r_2.2.2.2.2.2.1 r_2.2.2.2.2.2.2.1 r_2.2.2.2.2.2.2.2.1 r_2.2.2.2.2.2.2.2.2.1 r_2.2.2.2.2.2.2.2.2.2 r_2.2.2.1 r_2.1 r_2.2.1))))
abbrev rm_X11_keep : Room := { frames := 3, cells := 0, slots := 0, locals := 60 }
set_option maxRecDepth 100000 in
set_option maxHeartbeats 4000000 in
theorem k_X11_keep (l : Launch) (D : va_G) (cI cZ cK : ClassId) (a0 a1 a3 a7 a8 a17 a18 a20 a23 a25 a27 a9 a11 a12 a13 a14 a15 a16 a10 a21 a22 : Nat) (iga : Nat → Nat → Nat) (wz : Int32) (tm : Int32) (lt : Int32) (dl : ar) (hp : ar) (gs : ar) (md : ar) (ct : ar) (xp : ar) (wn : ar) (ik : ar) (iv : Nat → Nat → ar) (x1 : Int32) (R : Int32 × ar × (Nat → Nat → ar)) (h : f_X11_keep dl lt hp gs md ct xp wn wz tm iv ik x1 = some R) : Mu l D cI cZ cK yX11_keep cX11_keep 2 (some .int) rm_X11_keep [.ref a0, .int x1] ([(a0, .inr (11, [.ref a1, .ref a3, .ref a7, .ref a8, .ref a17, .ref a18, .ref a20, .ref a23, .ref a25, .ref a27])), (a8, .inr (1, [.ref a9, .ref a11, .ref a12, .ref a13, .ref a14, .ref a15, .ref a16, .int wz, .int tm])), (a9, .inr (3, [.ref a10, .int lt])), (a10, .inl (cI, 36, .inl dl)), (a11, .inl (cI, 36, .inl hp)), (a12, .inl (cI, 216, .inl gs)), (a13, .inl (cI, 216, .inl md)), (a14, .inl (cI, 6, .inl ct)), (a15, .inl (cI, 6, .inl xp)), (a16, .inl (cI, 101, .inl wn)), (a20, .inr (0, [.ref a21, .ref a22])), (a21, .inl (cK, 2, .inr (.inr (.inr (.inr (fun j => some (iga j 0))))))), (a22, .inl (cZ, 2, .inl ik))] ++ rc cI iga iv 2) (some (.int R.1)) ([(a0, .inr (11, [.ref a1, .ref a3, .ref a7, .ref a8, .ref a17, .ref a18, .ref a20, .ref a23, .ref a25, .ref a27])), (a8, .inr (1, [.ref a9, .ref a11, .ref a12, .ref a13, .ref a14, .ref a15, .ref a16, .int wz, .int tm])), (a9, .inr (3, [.ref a10, .int lt])), (a10, .inl (cI, 36, .inl dl)), (a11, .inl (cI, 36, .inl hp)), (a12, .inl (cI, 216, .inl gs)), (a13, .inl (cI, 216, .inl md)), (a14, .inl (cI, 6, .inl ct)), (a15, .inl (cI, 6, .inl xp)), (a16, .inl (cI, 101, .inl wn)), (a20, .inr (0, [.ref a21, .ref a22])), (a21, .inl (cK, 2, .inr (.inr (.inr (.inr (fun j => some (iga j 0))))))), (a22, .inl (cZ, 2, .inl R.2.1))] ++ rc cI iga R.2.2 2) := by
  refine mi_of (by decide) (vp_nar_int _) (Nat.le_of_ble_eq_true rfl) ?_
  intro p e s m args below meth c Q A ls hx hb hml hown hk hA w hret hl
  have hl : lv_has ls 2 [(0, .ref a0), (1, .int x1)] := hl
  obtain ⟨C0, hC0, h⟩ := sat_top h
  unfold f_X11_keep at h
  refine lv_iload_n hx hb dX11_keep_0 rfl (lv_at hl 1 rfl) ?_
  obtain ⟨r_1, e_1, h⟩ := sat_bind h
  refine cRS (rest := []) hx hb hml hown hk (k_X11_isImage l D cI cZ cK x1 r_1 e_1) (me_X11_isImage hk.2.1) (ms_X11_isImage hk.2.1) (ml_X11_230 hk.2.1) (w.1.sub [] rfl) hl.1 rfl rfl (Nat.le_of_ble_eq_true rfl) ⟨rfl, rfl, Nat.le_of_ble_eq_true rfl, Nat.le_of_ble_eq_true rfl, Nat.zero_le _, Nat.zero_le _⟩ dX11_keep_1 ?_
  refine lv_if_ne (tgt := 9) hx hb dX11_keep_4 (by decide) (fun c4 => ?_) (fun c4 => ?_)
  · have h := sat_f c4 h
    refine lv_aload_n hx hb dX11_keep_9 rfl (lv_at hl 0 rfl) ?_
    refine gf_X11_58 hx hb hown hk w.1 0 rfl rfl dX11_keep_10 ?_
    refine gf_X11_233 hx hb hown hk w.1 10 rfl rfl dX11_keep_13 ?_
    refine lv_iload_n hx hb dX11_keep_16 rfl (lv_at hl 1 rfl) ?_
    obtain ⟨hi17, h⟩ := sat_in h
    refine va_aldq hx hb hk.1 w.1 11 2 rfl rfl hi17 dX11_keep_17 ?_
    refine W.eq (g2 := F0 m 18 ls [.ref (iga x1.toNatClampNeg 0)]) rfl ?_
    refine lv_aload_n hx hb dX11_keep_18 rfl (lv_at hl 0 rfl) ?_
    refine gf_X11_35 hx hb hown hk w.1 0 rfl rfl dX11_keep_19 ?_
    obtain ⟨r_2, e_2, h⟩ := sat_bind h
    refine cMV (rest := []) (wr := ([(a0, .inr (11, [.ref a1, .ref a3, .ref a7, .ref a8, .ref a17, .ref a18, .ref a20, .ref a23, .ref a25, .ref a27])), (a20, .inr (0, [.ref a21, .ref a22])), (a21, .inl (cK, 2, .inr (.inr (.inr (.inr (fun j => some (iga j 0))))))), (a22, .inl (cZ, 2, .inl ik))] ++ rx cI iga iv 2 x1.toNatClampNeg)) (ws' := ([(a0, .inr (11, [.ref a1, .ref a3, .ref a7, .ref a8, .ref a17, .ref a18, .ref a20, .ref a23, .ref a25, .ref a27])), (a8, .inr (1, [.ref a9, .ref a11, .ref a12, .ref a13, .ref a14, .ref a15, .ref a16, .int wz, .int tm])), (a9, .inr (3, [.ref a10, .int lt])), (a10, .inl (cI, 36, .inl dl)), (a11, .inl (cI, 36, .inl hp)), (a12, .inl (cI, 216, .inl gs)), (a13, .inl (cI, 216, .inl md)), (a14, .inl (cI, 6, .inl ct)), (a15, .inl (cI, 6, .inl xp)), (a16, .inl (cI, 101, .inl wn)), (a20, .inr (0, [.ref a21, .ref a22])), (a21, .inl (cK, 2, .inr (.inr (.inr (.inr (fun j => some (iga j 0))))))), (a22, .inl (cZ, 2, .inl ik))] ++ rc cI iga (va_up iv x1.toNatClampNeg (kvT r_2.2.2.2.1 r_2.2.2.2.2.1 r_2.2.2.2.2.2.1 r_2.2.2.2.2.2.2.1 r_2.2.2.2.2.2.2.2.1 r_2.2.2.2.2.2.2.2.2.1 r_2.2.2.2.2.2.2.2.2.2 r_2.2.2.1 r_2.1 r_2.2.1)) 2)) hx hb hml hown hk w hA (k_X1_copyFrom l D cI cZ cK (iga x1.toNatClampNeg 0) (iga x1.toNatClampNeg 1) (iga x1.toNatClampNeg 3) (iga x1.toNatClampNeg 4) (iga x1.toNatClampNeg 5) (iga x1.toNatClampNeg 6) (iga x1.toNatClampNeg 7) (iga x1.toNatClampNeg 8) (iga x1.toNatClampNeg 2) a8 a9 a11 a12 a13 a14 a15 a16 a10 (iv x1.toNatClampNeg 7 1) (iv x1.toNatClampNeg 7 2) (iv x1.toNatClampNeg 7 0) (iv x1.toNatClampNeg 0) (iv x1.toNatClampNeg 1) (iv x1.toNatClampNeg 2) (iv x1.toNatClampNeg 3) (iv x1.toNatClampNeg 4) (iv x1.toNatClampNeg 5) (iv x1.toNatClampNeg 6) wz tm lt dl hp gs md ct xp wn r_2 e_2) (me_X1_copyFrom hk.2.1) (mi_X1_copyFrom hk.2.1) (ml_X11_237 hk.2.1) (pm_in (pmn 13 [1, 2, 3, 4, 5, 6, 7, 8, 9, 0, 10, 11, 12] rfl rfl (by decide)) (rc_take (vp_lt hi17))) (pm_out (pmn 13 [9, 0, 1, 2, 3, 4, 5, 6, 7, 8, 10, 11, 12] rfl rfl (by decide)) (rc_put (k := (kvT r_2.2.2.2.1 r_2.2.2.2.2.1 r_2.2.2.2.2.2.1 r_2.2.2.2.2.2.2.1 r_2.2.2.2.2.2.2.2.1 r_2.2.2.2.2.2.2.2.2.1 r_2.2.2.2.2.2.2.2.2.2 r_2.2.2.1 r_2.1 r_2.2.1)) (vp_lt hi17))) 0 rfl rfl rfl hl.1 rfl rfl (Nat.le_of_ble_eq_true rfl) ⟨rfl, rfl, Nat.le_of_ble_eq_true rfl, Nat.le_of_ble_eq_true rfl, Nat.zero_le _, Nat.zero_le _⟩ dX11_keep_22 (fun H locs w => ?_)
    refine W.eq (g2 := F0 m 25 ls []) rfl ?_
    refine lv_aload_n hx hb dX11_keep_25 rfl (lv_at hl 0 rfl) ?_
    refine gf_X11_58 hx hb hown hk w.1 0 rfl rfl dX11_keep_26 ?_
    refine gf_X11_239 hx hb hown hk w.1 10 rfl rfl dX11_keep_29 ?_
    refine lv_iload_n hx hb dX11_keep_32 rfl (lv_at hl 1 rfl) ?_
    refine lv_iconst (v := 1) hx hb dX11_keep_33 (by decide) ?_
    obtain ⟨hi, h⟩ := sat_in h
    refine ra_zst (ws' := ([(a0, .inr (11, [.ref a1, .ref a3, .ref a7, .ref a8, .ref a17, .ref a18, .ref a20, .ref a23, .ref a25, .ref a27])), (a8, .inr (1, [.ref a9, .ref a11, .ref a12, .ref a13, .ref a14, .ref a15, .ref a16, .int wz, .int tm])), (a9, .inr (3, [.ref a10, .int lt])), (a10, .inl (cI, 36, .inl dl)), (a11, .inl (cI, 36, .inl hp)), (a12, .inl (cI, 216, .inl gs)), (a13, .inl (cI, 216, .inl md)), (a14, .inl (cI, 6, .inl ct)), (a15, .inl (cI, 6, .inl xp)), (a16, .inl (cI, 101, .inl wn)), (a20, .inr (0, [.ref a21, .ref a22])), (a21, .inl (cK, 2, .inr (.inr (.inr (.inr (fun j => some (iga j 0))))))), (a22, .inl (cZ, 2, .inl (upd ik x1.toNatClampNeg 1)))] ++ rc cI iga (va_up iv x1.toNatClampNeg (kvT r_2.2.2.2.1 r_2.2.2.2.2.1 r_2.2.2.2.2.2.1 r_2.2.2.2.2.2.2.1 r_2.2.2.2.2.2.2.2.1 r_2.2.2.2.2.2.2.2.2.1 r_2.2.2.2.2.2.2.2.2.2 r_2.2.2.1 r_2.1 r_2.2.1)) 2)) hx hb hk w 12 rfl hi (by decide) rfl dX11_keep_34 (fun H locs w => ?_)
    refine lv_aload_n hx hb dX11_keep_35 rfl (lv_at hl 0 rfl) ?_
    refine gf_X11_35 hx hb hown hk w.1 0 rfl rfl dX11_keep_36 ?_
    refine gf_X11_118 hx hb hown hk w.1 1 rfl rfl dX11_keep_39 ?_
    refine gf_X11_148 hx hb hown hk w.1 2 rfl rfl dX11_keep_42 ?_
    have hR := hC0 _ (sat_some h)
    subst hR
    exact hret _ _ _ _ w dX11_keep_45
  · have h := sat_t c4 h
    refine lv_iconst (v := (-1)) hx hb dX11_keep_7 (by decide) ?_
    have hR := hC0 _ (sat_some h)
    subst hR
    exact hret _ _ _ _ w dX11_keep_8
def f_X11_back (dl : ar) (lt : Int32) (hp : ar) (gs : ar) (md : ar) (ct : ar) (xp : ar) (wn : ar) (wz : Int32) (tm : Int32) (ps : Int32) (iv : Nat → Nat → ar) (ik : ar) (x1 : Int32) : Option (Int32 × Int32 × Int32 × Int32 × ar × ar × ar × ar × ar × ar × ar × Int32) := Option.bind (f_X11_isImage x1) fun r_1 => if (b2i r_1) = 0 then some ((-1), wz, tm, lt, dl, hp, gs, md, ct, xp, wn, ps) else ck (inb x1 2) (if (ik x1.toNatClampNeg) = 0 then some ((-2), wz, tm, lt, dl, hp, gs, md, ct, xp, wn, ps) else ck (inb x1 2) (Option.bind (f_X1_copyFrom dl hp gs md ct xp wn (iv x1.toNatClampNeg 0) (iv x1.toNatClampNeg 7 0) (iv x1.toNatClampNeg 1) (iv x1.toNatClampNeg 2) (iv x1.toNatClampNeg 3) (iv x1.toNatClampNeg 4) (iv x1.toNatClampNeg 5) (iv x1.toNatClampNeg 6) (iv x1.toNatClampNeg 7 1) (iv x1.toNatClampNeg 7 2)) fun r_2 => some (r_2.2.2.1, r_2.1, r_2.2.1, r_2.2.2.1, r_2.2.2.2.1, r_2.2.2.2.2.1, r_2.2.2.2.2.2.1, r_2.2.2.2.2.2.2.1, r_2.2.2.2.2.2.2.2.1, r_2.2.2.2.2.2.2.2.2.1, r_2.2.2.2.2.2.2.2.2.2, 0)))
abbrev rm_X11_back : Room := { frames := 3, cells := 0, slots := 0, locals := 60 }
set_option maxRecDepth 100000 in
set_option maxHeartbeats 4000000 in
theorem k_X11_back (l : Launch) (D : va_G) (cI cZ cK : ClassId) (a0 a1 a3 a7 a8 a17 a18 a20 a23 a25 a27 a9 a11 a12 a13 a14 a15 a16 a10 a19 a21 a22 : Nat) (iga : Nat → Nat → Nat) (wz : Int32) (tm : Int32) (lt : Int32) (dl : ar) (hp : ar) (gs : ar) (md : ar) (ct : ar) (xp : ar) (wn : ar) (la : Int32) (ps : Int32) (ik : ar) (iv : Nat → Nat → ar) (x1 : Int32) (R : Int32 × Int32 × Int32 × Int32 × ar × ar × ar × ar × ar × ar × ar × Int32) (h : f_X11_back dl lt hp gs md ct xp wn wz tm ps iv ik x1 = some R) : Mu l D cI cZ cK yX11_back cX11_back 2 (some .int) rm_X11_back [.ref a0, .int x1] ([(a0, .inr (11, [.ref a1, .ref a3, .ref a7, .ref a8, .ref a17, .ref a18, .ref a20, .ref a23, .ref a25, .ref a27])), (a8, .inr (1, [.ref a9, .ref a11, .ref a12, .ref a13, .ref a14, .ref a15, .ref a16, .int wz, .int tm])), (a9, .inr (3, [.ref a10, .int lt])), (a10, .inl (cI, 36, .inl dl)), (a11, .inl (cI, 36, .inl hp)), (a12, .inl (cI, 216, .inl gs)), (a13, .inl (cI, 216, .inl md)), (a14, .inl (cI, 6, .inl ct)), (a15, .inl (cI, 6, .inl xp)), (a16, .inl (cI, 101, .inl wn)), (a18, .inr (4, [.ref a19, .int la, .int ps])), (a20, .inr (0, [.ref a21, .ref a22])), (a21, .inl (cK, 2, .inr (.inr (.inr (.inr (fun j => some (iga j 0))))))), (a22, .inl (cZ, 2, .inl ik))] ++ rc cI iga iv 2) (some (.int R.1)) ([(a0, .inr (11, [.ref a1, .ref a3, .ref a7, .ref a8, .ref a17, .ref a18, .ref a20, .ref a23, .ref a25, .ref a27])), (a8, .inr (1, [.ref a9, .ref a11, .ref a12, .ref a13, .ref a14, .ref a15, .ref a16, .int R.2.1, .int R.2.2.1])), (a9, .inr (3, [.ref a10, .int R.2.2.2.1])), (a10, .inl (cI, 36, .inl R.2.2.2.2.1)), (a11, .inl (cI, 36, .inl R.2.2.2.2.2.1)), (a12, .inl (cI, 216, .inl R.2.2.2.2.2.2.1)), (a13, .inl (cI, 216, .inl R.2.2.2.2.2.2.2.1)), (a14, .inl (cI, 6, .inl R.2.2.2.2.2.2.2.2.1)), (a15, .inl (cI, 6, .inl R.2.2.2.2.2.2.2.2.2.1)), (a16, .inl (cI, 101, .inl R.2.2.2.2.2.2.2.2.2.2.1)), (a18, .inr (4, [.ref a19, .int la, .int R.2.2.2.2.2.2.2.2.2.2.2])), (a20, .inr (0, [.ref a21, .ref a22])), (a21, .inl (cK, 2, .inr (.inr (.inr (.inr (fun j => some (iga j 0))))))), (a22, .inl (cZ, 2, .inl ik))] ++ rc cI iga iv 2) := by
  refine mi_of (by decide) (vp_nar_int _) (Nat.le_of_ble_eq_true rfl) ?_
  intro p e s m args below meth c Q A ls hx hb hml hown hk hA w hret hl
  have hl : lv_has ls 2 [(0, .ref a0), (1, .int x1)] := hl
  obtain ⟨C0, hC0, h⟩ := sat_top h
  unfold f_X11_back at h
  refine lv_iload_n hx hb dX11_back_0 rfl (lv_at hl 1 rfl) ?_
  obtain ⟨r_1, e_1, h⟩ := sat_bind h
  refine cRS (rest := []) hx hb hml hown hk (k_X11_isImage l D cI cZ cK x1 r_1 e_1) (me_X11_isImage hk.2.1) (ms_X11_isImage hk.2.1) (ml_X11_230 hk.2.1) (w.1.sub [] rfl) hl.1 rfl rfl (Nat.le_of_ble_eq_true rfl) ⟨rfl, rfl, Nat.le_of_ble_eq_true rfl, Nat.le_of_ble_eq_true rfl, Nat.zero_le _, Nat.zero_le _⟩ dX11_back_1 ?_
  refine lv_if_ne (tgt := 9) hx hb dX11_back_4 (by decide) (fun c4 => ?_) (fun c4 => ?_)
  · have h := sat_f c4 h
    refine lv_aload_n hx hb dX11_back_9 rfl (lv_at hl 0 rfl) ?_
    refine gf_X11_58 hx hb hown hk w.1 0 rfl rfl dX11_back_10 ?_
    refine gf_X11_239 hx hb hown hk w.1 11 rfl rfl dX11_back_13 ?_
    refine lv_iload_n hx hb dX11_back_16 rfl (lv_at hl 1 rfl) ?_
    obtain ⟨hi, h⟩ := sat_in h
    refine va_zald hx hb hk.1 w.1 13 1 rfl rfl hi dX11_back_17 ?_
    refine lv_if_ne (tgt := 24) hx hb dX11_back_18 (by decide) (fun c18 => ?_) (fun c18 => ?_)
    · have h := sat_f c18 h
      refine lv_aload_n hx hb dX11_back_24 rfl (lv_at hl 0 rfl) ?_
      refine gf_X11_35 hx hb hown hk w.1 0 rfl rfl dX11_back_25 ?_
      refine lv_aload_n hx hb dX11_back_28 rfl (lv_at hl 0 rfl) ?_
      refine gf_X11_58 hx hb hown hk w.1 0 rfl rfl dX11_back_29 ?_
      refine gf_X11_233 hx hb hown hk w.1 11 rfl rfl dX11_back_32 ?_
      refine lv_iload_n hx hb dX11_back_35 rfl (lv_at hl 1 rfl) ?_
      obtain ⟨hi36, h⟩ := sat_in h
      refine va_aldq hx hb hk.1 w.1 12 2 rfl rfl hi36 dX11_back_36 ?_
      refine W.eq (g2 := F0 m 37 ls [.ref (iga x1.toNatClampNeg 0), .ref a8]) rfl ?_
      obtain ⟨r_2, e_2, h⟩ := sat_bind h
      refine cMV (rest := []) (wr := ([(a0, .inr (11, [.ref a1, .ref a3, .ref a7, .ref a8, .ref a17, .ref a18, .ref a20, .ref a23, .ref a25, .ref a27])), (a18, .inr (4, [.ref a19, .int la, .int ps])), (a20, .inr (0, [.ref a21, .ref a22])), (a21, .inl (cK, 2, .inr (.inr (.inr (.inr (fun j => some (iga j 0))))))), (a22, .inl (cZ, 2, .inl ik))] ++ rx cI iga iv 2 x1.toNatClampNeg)) (ws' := ([(a0, .inr (11, [.ref a1, .ref a3, .ref a7, .ref a8, .ref a17, .ref a18, .ref a20, .ref a23, .ref a25, .ref a27])), (a8, .inr (1, [.ref a9, .ref a11, .ref a12, .ref a13, .ref a14, .ref a15, .ref a16, .int r_2.1, .int r_2.2.1])), (a9, .inr (3, [.ref a10, .int r_2.2.2.1])), (a10, .inl (cI, 36, .inl r_2.2.2.2.1)), (a11, .inl (cI, 36, .inl r_2.2.2.2.2.1)), (a12, .inl (cI, 216, .inl r_2.2.2.2.2.2.1)), (a13, .inl (cI, 216, .inl r_2.2.2.2.2.2.2.1)), (a14, .inl (cI, 6, .inl r_2.2.2.2.2.2.2.2.1)), (a15, .inl (cI, 6, .inl r_2.2.2.2.2.2.2.2.2.1)), (a16, .inl (cI, 101, .inl r_2.2.2.2.2.2.2.2.2.2)), (a18, .inr (4, [.ref a19, .int la, .int ps])), (a20, .inr (0, [.ref a21, .ref a22])), (a21, .inl (cK, 2, .inr (.inr (.inr (.inr (fun j => some (iga j 0))))))), (a22, .inl (cZ, 2, .inl ik))] ++ rc cI iga iv 2)) hx hb hml hown hk w hA (k_X1_copyFrom l D cI cZ cK a8 a9 a11 a12 a13 a14 a15 a16 a10 (iga x1.toNatClampNeg 0) (iga x1.toNatClampNeg 1) (iga x1.toNatClampNeg 3) (iga x1.toNatClampNeg 4) (iga x1.toNatClampNeg 5) (iga x1.toNatClampNeg 6) (iga x1.toNatClampNeg 7) (iga x1.toNatClampNeg 8) (iga x1.toNatClampNeg 2) wz tm lt dl hp gs md ct xp wn (iv x1.toNatClampNeg 7 1) (iv x1.toNatClampNeg 7 2) (iv x1.toNatClampNeg 7 0) (iv x1.toNatClampNeg 0) (iv x1.toNatClampNeg 1) (iv x1.toNatClampNeg 2) (iv x1.toNatClampNeg 3) (iv x1.toNatClampNeg 4) (iv x1.toNatClampNeg 5) (iv x1.toNatClampNeg 6) r_2 e_2) (me_X1_copyFrom hk.2.1) (mi_X1_copyFrom hk.2.1) (ml_X11_237 hk.2.1) (pm_in2 (K := [(a8, .inr (1, [.ref a9, .ref a11, .ref a12, .ref a13, .ref a14, .ref a15, .ref a16, .int wz, .int tm])), (a9, .inr (3, [.ref a10, .int lt])), (a10, .inl (cI, 36, .inl dl)), (a11, .inl (cI, 36, .inl hp)), (a12, .inl (cI, 216, .inl gs)), (a13, .inl (cI, 216, .inl md)), (a14, .inl (cI, 6, .inl ct)), (a15, .inl (cI, 6, .inl xp)), (a16, .inl (cI, 101, .inl wn))]) (kj := kc cI (iga x1.toNatClampNeg) (iv x1.toNatClampNeg)) (pmn 14 [1, 2, 3, 4, 5, 6, 7, 8, 9, 0, 10, 11, 12, 13] rfl rfl (by decide)) (rc_take (vp_lt hi36))) (pm_out2 (K := [(a8, .inr (1, [.ref a9, .ref a11, .ref a12, .ref a13, .ref a14, .ref a15, .ref a16, .int r_2.1, .int r_2.2.1])), (a9, .inr (3, [.ref a10, .int r_2.2.2.1])), (a10, .inl (cI, 36, .inl r_2.2.2.2.1)), (a11, .inl (cI, 36, .inl r_2.2.2.2.2.1)), (a12, .inl (cI, 216, .inl r_2.2.2.2.2.2.1)), (a13, .inl (cI, 216, .inl r_2.2.2.2.2.2.2.1)), (a14, .inl (cI, 6, .inl r_2.2.2.2.2.2.2.2.1)), (a15, .inl (cI, 6, .inl r_2.2.2.2.2.2.2.2.2.1)), (a16, .inl (cI, 101, .inl r_2.2.2.2.2.2.2.2.2.2))]) (kj := kc cI (iga x1.toNatClampNeg) (iv x1.toNatClampNeg)) (pmn 14 [9, 0, 1, 2, 3, 4, 5, 6, 7, 8, 10, 11, 12, 13] rfl rfl (by decide)) (rc_take (vp_lt hi36)).symm) 0 rfl rfl rfl hl.1 rfl rfl (Nat.le_of_ble_eq_true rfl) ⟨rfl, rfl, Nat.le_of_ble_eq_true rfl, Nat.le_of_ble_eq_true rfl, Nat.zero_le _, Nat.zero_le _⟩ dX11_back_37 (fun H locs w => ?_)
      refine W.eq (g2 := F0 m 40 ls []) rfl ?_
      refine lv_aload_n hx hb dX11_back_40 rfl (lv_at hl 0 rfl) ?_
      refine gf_X11_51 hx hb hown hk w.1 0 rfl rfl dX11_back_41 ?_
      refine lv_iconst (v := 0) hx hb dX11_back_44 (by decide) ?_
      refine pf_X11_110 (ws' := ([(a0, .inr (11, [.ref a1, .ref a3, .ref a7, .ref a8, .ref a17, .ref a18, .ref a20, .ref a23, .ref a25, .ref a27])), (a8, .inr (1, [.ref a9, .ref a11, .ref a12, .ref a13, .ref a14, .ref a15, .ref a16, .int r_2.1, .int r_2.2.1])), (a9, .inr (3, [.ref a10, .int r_2.2.2.1])), (a10, .inl (cI, 36, .inl r_2.2.2.2.1)), (a11, .inl (cI, 36, .inl r_2.2.2.2.2.1)), (a12, .inl (cI, 216, .inl r_2.2.2.2.2.2.1)), (a13, .inl (cI, 216, .inl r_2.2.2.2.2.2.2.1)), (a14, .inl (cI, 6, .inl r_2.2.2.2.2.2.2.2.1)), (a15, .inl (cI, 6, .inl r_2.2.2.2.2.2.2.2.2.1)), (a16, .inl (cI, 101, .inl r_2.2.2.2.2.2.2.2.2.2)), (a18, .inr (4, [.ref a19, .int la, .int 0])), (a20, .inr (0, [.ref a21, .ref a22])), (a21, .inl (cK, 2, .inr (.inr (.inr (.inr (fun j => some (iga j 0))))))), (a22, .inl (cZ, 2, .inl ik))] ++ rc cI iga iv 2)) hx hb hown hk w 10 rfl (Nat.le_of_ble_eq_true rfl) rfl dX11_back_45 (fun H locs w => ?_)
      refine lv_aload_n hx hb dX11_back_48 rfl (lv_at hl 0 rfl) ?_
      refine gf_X11_35 hx hb hown hk w.1 0 rfl rfl dX11_back_49 ?_
      refine gf_X11_118 hx hb hown hk w.1 1 rfl rfl dX11_back_52 ?_
      refine gf_X11_148 hx hb hown hk w.1 2 rfl rfl dX11_back_55 ?_
      have hR := hC0 _ (sat_some h)
      subst hR
      exact hret _ _ _ _ w dX11_back_58
    · have h := sat_t c18 h
      refine lv_bipush (v := (-2)) hx hb dX11_back_21 (by decide) ?_
      have hR := hC0 _ (sat_some h)
      subst hR
      exact hret _ _ _ _ w dX11_back_23
  · have h := sat_t c4 h
    refine lv_iconst (v := (-1)) hx hb dX11_back_7 (by decide) ?_
    have hR := hC0 _ (sat_some h)
    subst hR
    exact hret _ _ _ _ w dX11_back_8
def f_X11_net (N : Nat) (tx : ar) (tn : Int32) (kd : Int32) (nu : Int32) (pl : Int32) (rn : Int32) (re : Int32) (rh : Int32) (ra : Int32) (rl : Int32) (rf : Int32) (dl : ar) (lt : Int32) (hp : ar) (md : ar) (ct : ar) (xp : ar) (wz : Int32) (tm : Int32) (ps : Int32) (ik : ar) (sz : Int32) : Option (Int32 × Int32 × Int32 × Int32 × Int32 × Int32 × Int32 × Int32 × Int32 × Int32 × Int32 × Int32 × Int32 × Int32 × ar × Int32 × Int32 × Int32 × Int32 × Int32 × Int32 × Int32 × Int32 × Int32 × ar × ar × ar × ar × ar × Int32 × ar × Int32) := Option.bind (f_X6_readText N tx tn kd nu pl) fun r_1 => if r_1.1 = (-1) then Option.bind (f_X7_copyFrom r_1.2.2.2.2.2.2.1 r_1.2.2.2.2.2.2.2.1 r_1.2.2.2.2.2.2.2.2.1 r_1.2.2.2.2.2.2.2.2.2.1 r_1.2.2.2.2.2.2.2.2.2.2.1 r_1.2.2.2.2.2.2.2.2.2.2.2.1) fun r_2 => Option.bind (f_X1_restart dl r_1.2.2.2.2.2.2.2.2.2.2.2.2.2 r_1.2.2.2.2.2.2.2.2.2.2.2.2.1) fun r_3 => Option.bind (f_X0_drop N ik) fun r_4 => some (r_1.2.1, 0, r_1.2.1, r_1.2.2.1, r_1.2.2.2.1, r_1.2.2.2.2.1, r_1.2.2.2.2.2.1, r_1.2.2.2.2.2.2.1, r_1.2.2.2.2.2.2.2.1, r_1.2.2.2.2.2.2.2.2.1, r_1.2.2.2.2.2.2.2.2.2.1, r_1.2.2.2.2.2.2.2.2.2.2.1, r_1.2.2.2.2.2.2.2.2.2.2.2.1, r_1.2.2.2.2.2.2.2.2.2.2.2.2.1, r_1.2.2.2.2.2.2.2.2.2.2.2.2.2, r_2.1, r_2.2.1, r_2.2.2.1, r_2.2.2.2.1, r_2.2.2.2.2.1, r_2.2.2.2.2.2, r_3.1, r_3.2.1, r_3.2.2.1, r_3.2.2.2.1, r_3.2.2.2.2.1, r_3.2.2.2.2.2.1, r_3.2.2.2.2.2.2.1, r_3.2.2.2.2.2.2.2, 0, r_4, 0) else some ((-10) - r_1.1, tn, r_1.2.1, r_1.2.2.1, r_1.2.2.2.1, r_1.2.2.2.2.1, r_1.2.2.2.2.2.1, r_1.2.2.2.2.2.2.1, r_1.2.2.2.2.2.2.2.1, r_1.2.2.2.2.2.2.2.2.1, r_1.2.2.2.2.2.2.2.2.2.1, r_1.2.2.2.2.2.2.2.2.2.2.1, r_1.2.2.2.2.2.2.2.2.2.2.2.1, r_1.2.2.2.2.2.2.2.2.2.2.2.2.1, r_1.2.2.2.2.2.2.2.2.2.2.2.2.2, rn, re, rh, ra, rl, rf, wz, tm, lt, dl, hp, md, ct, xp, ps, ik, sz)
abbrev rm_X11_net : Room := { frames := 7, cells := 0, slots := 0, locals := 146 }
set_option maxRecDepth 100000 in
set_option maxHeartbeats 4000000 in
theorem k_X11_net (l : Launch) (D : va_G) (cI cZ cK : ClassId) (N : Nat) (a0 a1 a3 a7 a8 a17 a18 a20 a23 a25 a27 a2 a4 a5 a6 a9 a11 a12 a13 a14 a15 a16 a10 a19 a21 a22 a28 a29 a30 : Nat) (tn : Int32) (tx : ar) (it : Int32) (kd : Int32) (nu : Int32) (pl : Int32) (nx : Int32) (qrn : Int32) (qre : Int32) (qrh : Int32) (qra : Int32) (qrl : Int32) (qrf : Int32) (qlt : Int32) (qdl : ar) (rn : Int32) (re : Int32) (rh : Int32) (ra : Int32) (rl : Int32) (rf : Int32) (wz : Int32) (tm : Int32) (lt : Int32) (dl : ar) (hp : ar) (md : ar) (ct : ar) (xp : ar) (la : Int32) (ps : Int32) (ik : ar) (sz : Int32) (R : Int32 × Int32 × Int32 × Int32 × Int32 × Int32 × Int32 × Int32 × Int32 × Int32 × Int32 × Int32 × Int32 × Int32 × ar × Int32 × Int32 × Int32 × Int32 × Int32 × Int32 × Int32 × Int32 × Int32 × ar × ar × ar × ar × ar × Int32 × ar × Int32) (h : f_X11_net N tx tn kd nu pl rn re rh ra rl rf dl lt hp md ct xp wz tm ps ik sz = some R) : Mu l D cI cZ cK yX11_net cX11_net 2 (some .int) rm_X11_net [.ref a0] [(a0, .inr (11, [.ref a1, .ref a3, .ref a7, .ref a8, .ref a17, .ref a18, .ref a20, .ref a23, .ref a25, .ref a27])), (a1, .inr (9, [.ref a2, .int tn])), (a2, .inl (cI, 120, .inl tx)), (a3, .inr (6, [.ref a1, .ref a4, .ref a5, .int it, .int kd, .int nu, .int pl, .int nx])), (a4, .inr (7, [.int qrn, .int qre, .int qrh, .int qra, .int qrl, .int qrf])), (a5, .inr (3, [.ref a6, .int qlt])), (a6, .inl (cI, 36, .inl qdl)), (a7, .inr (7, [.int rn, .int re, .int rh, .int ra, .int rl, .int rf])), (a8, .inr (1, [.ref a9, .ref a11, .ref a12, .ref a13, .ref a14, .ref a15, .ref a16, .int wz, .int tm])), (a9, .inr (3, [.ref a10, .int lt])), (a10, .inl (cI, 36, .inl dl)), (a11, .inl (cI, 36, .inl hp)), (a13, .inl (cI, 216, .inl md)), (a14, .inl (cI, 6, .inl ct)), (a15, .inl (cI, 6, .inl xp)), (a18, .inr (4, [.ref a19, .int la, .int ps])), (a20, .inr (0, [.ref a21, .ref a22])), (a22, .inl (cZ, 2, .inl ik)), (a27, .inr (8, [.ref a28, .ref a29, .ref a30, .int sz]))] (some (.int R.1)) [(a0, .inr (11, [.ref a1, .ref a3, .ref a7, .ref a8, .ref a17, .ref a18, .ref a20, .ref a23, .ref a25, .ref a27])), (a1, .inr (9, [.ref a2, .int R.2.1])), (a2, .inl (cI, 120, .inl tx)), (a3, .inr (6, [.ref a1, .ref a4, .ref a5, .int R.2.2.1, .int R.2.2.2.1, .int R.2.2.2.2.1, .int R.2.2.2.2.2.1, .int R.2.2.2.2.2.2.1])), (a4, .inr (7, [.int R.2.2.2.2.2.2.2.1, .int R.2.2.2.2.2.2.2.2.1, .int R.2.2.2.2.2.2.2.2.2.1, .int R.2.2.2.2.2.2.2.2.2.2.1, .int R.2.2.2.2.2.2.2.2.2.2.2.1, .int R.2.2.2.2.2.2.2.2.2.2.2.2.1])), (a5, .inr (3, [.ref a6, .int R.2.2.2.2.2.2.2.2.2.2.2.2.2.1])), (a6, .inl (cI, 36, .inl R.2.2.2.2.2.2.2.2.2.2.2.2.2.2.1)), (a7, .inr (7, [.int R.2.2.2.2.2.2.2.2.2.2.2.2.2.2.2.1, .int R.2.2.2.2.2.2.2.2.2.2.2.2.2.2.2.2.1, .int R.2.2.2.2.2.2.2.2.2.2.2.2.2.2.2.2.2.1, .int R.2.2.2.2.2.2.2.2.2.2.2.2.2.2.2.2.2.2.1, .int R.2.2.2.2.2.2.2.2.2.2.2.2.2.2.2.2.2.2.2.1, .int R.2.2.2.2.2.2.2.2.2.2.2.2.2.2.2.2.2.2.2.2.1])), (a8, .inr (1, [.ref a9, .ref a11, .ref a12, .ref a13, .ref a14, .ref a15, .ref a16, .int R.2.2.2.2.2.2.2.2.2.2.2.2.2.2.2.2.2.2.2.2.2.1, .int R.2.2.2.2.2.2.2.2.2.2.2.2.2.2.2.2.2.2.2.2.2.2.1])), (a9, .inr (3, [.ref a10, .int R.2.2.2.2.2.2.2.2.2.2.2.2.2.2.2.2.2.2.2.2.2.2.2.1])), (a10, .inl (cI, 36, .inl R.2.2.2.2.2.2.2.2.2.2.2.2.2.2.2.2.2.2.2.2.2.2.2.2.1)), (a11, .inl (cI, 36, .inl R.2.2.2.2.2.2.2.2.2.2.2.2.2.2.2.2.2.2.2.2.2.2.2.2.2.1)), (a13, .inl (cI, 216, .inl R.2.2.2.2.2.2.2.2.2.2.2.2.2.2.2.2.2.2.2.2.2.2.2.2.2.2.1)), (a14, .inl (cI, 6, .inl R.2.2.2.2.2.2.2.2.2.2.2.2.2.2.2.2.2.2.2.2.2.2.2.2.2.2.2.1)), (a15, .inl (cI, 6, .inl R.2.2.2.2.2.2.2.2.2.2.2.2.2.2.2.2.2.2.2.2.2.2.2.2.2.2.2.2.1)), (a18, .inr (4, [.ref a19, .int la, .int R.2.2.2.2.2.2.2.2.2.2.2.2.2.2.2.2.2.2.2.2.2.2.2.2.2.2.2.2.2.1])), (a20, .inr (0, [.ref a21, .ref a22])), (a22, .inl (cZ, 2, .inl R.2.2.2.2.2.2.2.2.2.2.2.2.2.2.2.2.2.2.2.2.2.2.2.2.2.2.2.2.2.2.1)), (a27, .inr (8, [.ref a28, .ref a29, .ref a30, .int R.2.2.2.2.2.2.2.2.2.2.2.2.2.2.2.2.2.2.2.2.2.2.2.2.2.2.2.2.2.2.2]))] := by
  refine mi_of (by decide) (vp_nar_int _) (Nat.le_of_ble_eq_true rfl) ?_
  intro p e s m args below meth c Q A ls hx hb hml hown hk hA w hret hl
  have hl : lv_has ls 2 [(0, .ref a0)] := hl
  obtain ⟨C0, hC0, h⟩ := sat_top h
  unfold f_X11_net at h
  refine lv_aload_n hx hb dX11_net_0 rfl (lv_at hl 0 rfl) ?_
  refine gf_X11_21 hx hb hown hk w.1 0 rfl rfl dX11_net_1 ?_
  obtain ⟨r_1, e_1, h⟩ := sat_bind h
  refine cMV (rest := []) (wr := [(a0, .inr (11, [.ref a1, .ref a3, .ref a7, .ref a8, .ref a17, .ref a18, .ref a20, .ref a23, .ref a25, .ref a27])), (a7, .inr (7, [.int rn, .int re, .int rh, .int ra, .int rl, .int rf])), (a8, .inr (1, [.ref a9, .ref a11, .ref a12, .ref a13, .ref a14, .ref a15, .ref a16, .int wz, .int tm])), (a9, .inr (3, [.ref a10, .int lt])), (a10, .inl (cI, 36, .inl dl)), (a11, .inl (cI, 36, .inl hp)), (a13, .inl (cI, 216, .inl md)), (a14, .inl (cI, 6, .inl ct)), (a15, .inl (cI, 6, .inl xp)), (a18, .inr (4, [.ref a19, .int la, .int ps])), (a20, .inr (0, [.ref a21, .ref a22])), (a22, .inl (cZ, 2, .inl ik)), (a27, .inr (8, [.ref a28, .ref a29, .ref a30, .int sz]))]) (ws' := [(a0, .inr (11, [.ref a1, .ref a3, .ref a7, .ref a8, .ref a17, .ref a18, .ref a20, .ref a23, .ref a25, .ref a27])), (a1, .inr (9, [.ref a2, .int tn])), (a2, .inl (cI, 120, .inl tx)), (a3, .inr (6, [.ref a1, .ref a4, .ref a5, .int r_1.2.1, .int r_1.2.2.1, .int r_1.2.2.2.1, .int r_1.2.2.2.2.1, .int r_1.2.2.2.2.2.1])), (a4, .inr (7, [.int r_1.2.2.2.2.2.2.1, .int r_1.2.2.2.2.2.2.2.1, .int r_1.2.2.2.2.2.2.2.2.1, .int r_1.2.2.2.2.2.2.2.2.2.1, .int r_1.2.2.2.2.2.2.2.2.2.2.1, .int r_1.2.2.2.2.2.2.2.2.2.2.2.1])), (a5, .inr (3, [.ref a6, .int r_1.2.2.2.2.2.2.2.2.2.2.2.2.1])), (a6, .inl (cI, 36, .inl r_1.2.2.2.2.2.2.2.2.2.2.2.2.2)), (a7, .inr (7, [.int rn, .int re, .int rh, .int ra, .int rl, .int rf])), (a8, .inr (1, [.ref a9, .ref a11, .ref a12, .ref a13, .ref a14, .ref a15, .ref a16, .int wz, .int tm])), (a9, .inr (3, [.ref a10, .int lt])), (a10, .inl (cI, 36, .inl dl)), (a11, .inl (cI, 36, .inl hp)), (a13, .inl (cI, 216, .inl md)), (a14, .inl (cI, 6, .inl ct)), (a15, .inl (cI, 6, .inl xp)), (a18, .inr (4, [.ref a19, .int la, .int ps])), (a20, .inr (0, [.ref a21, .ref a22])), (a22, .inl (cZ, 2, .inl ik)), (a27, .inr (8, [.ref a28, .ref a29, .ref a30, .int sz]))]) hx hb hml hown hk w hA (k_X6_readText l D cI cZ cK N a3 a1 a4 a5 a2 a6 it kd nu pl nx tn tx qrn qre qrh qra qrl qrf qlt qdl r_1 e_1) (me_X6_readText hk.2.1) (mi_X6_readText hk.2.1) (ml_X11_93 hk.2.1) ((pmn 19 [3, 1, 2, 4, 5, 6, 0, 7, 8, 9, 10, 11, 12, 13, 14, 15, 16, 17, 18] rfl rfl (by decide))) ((pmn 19 [6, 1, 2, 0, 3, 4, 5, 7, 8, 9, 10, 11, 12, 13, 14, 15, 16, 17, 18] rfl rfl (by decide))) 0 rfl rfl rfl hl.1 rfl rfl (Nat.le_of_ble_eq_true rfl) ⟨rfl, rfl, Nat.le_of_ble_eq_true rfl, Nat.le_of_ble_eq_true rfl, Nat.zero_le _, Nat.zero_le _⟩ dX11_net_4 (fun H locs w => ?_)
  refine W.eq (g2 := F0 m 7 ls [.int r_1.1]) rfl ?_
  refine lv_istore_n (lv' := [(1, .int r_1.1), (0, .ref a0)]) hx hb dX11_net_7 rfl hl (by decide) rfl (fun ls hl => ?_)
  refine lv_iload_n hx hb dX11_net_8 rfl (lv_at hl 0 rfl) ?_
  refine lv_iconst (v := (-1)) hx hb dX11_net_9 (by decide) ?_
  refine lv_icmp_eq (tgt := 18) hx hb dX11_net_10 (by decide) (fun c10 => ?_) (fun c10 => ?_)
  · have h := sat_t c10 h
    refine lv_aload_n hx hb dX11_net_18 rfl (lv_at hl 1 rfl) ?_
    refine gf_X11_28 hx hb hown hk w.1 0 rfl rfl dX11_net_19 ?_
    refine lv_aload_n hx hb dX11_net_22 rfl (lv_at hl 1 rfl) ?_
    refine gf_X11_21 hx hb hown hk w.1 0 rfl rfl dX11_net_23 ?_
    refine gf_X11_97 hx hb hown hk w.1 3 rfl rfl dX11_net_26 ?_
    obtain ⟨r_2, e_2, h⟩ := sat_bind h
    refine cMV (rest := []) (wr := [(a0, .inr (11, [.ref a1, .ref a3, .ref a7, .ref a8, .ref a17, .ref a18, .ref a20, .ref a23, .ref a25, .ref a27])), (a1, .inr (9, [.ref a2, .int tn])), (a2, .inl (cI, 120, .inl tx)), (a3, .inr (6, [.ref a1, .ref a4, .ref a5, .int r_1.2.1, .int r_1.2.2.1, .int r_1.2.2.2.1, .int r_1.2.2.2.2.1, .int r_1.2.2.2.2.2.1])), (a5, .inr (3, [.ref a6, .int r_1.2.2.2.2.2.2.2.2.2.2.2.2.1])), (a6, .inl (cI, 36, .inl r_1.2.2.2.2.2.2.2.2.2.2.2.2.2)), (a8, .inr (1, [.ref a9, .ref a11, .ref a12, .ref a13, .ref a14, .ref a15, .ref a16, .int wz, .int tm])), (a9, .inr (3, [.ref a10, .int lt])), (a10, .inl (cI, 36, .inl dl)), (a11, .inl (cI, 36, .inl hp)), (a13, .inl (cI, 216, .inl md)), (a14, .inl (cI, 6, .inl ct)), (a15, .inl (cI, 6, .inl xp)), (a18, .inr (4, [.ref a19, .int la, .int ps])), (a20, .inr (0, [.ref a21, .ref a22])), (a22, .inl (cZ, 2, .inl ik)), (a27, .inr (8, [.ref a28, .ref a29, .ref a30, .int sz]))]) (ws' := [(a0, .inr (11, [.ref a1, .ref a3, .ref a7, .ref a8, .ref a17, .ref a18, .ref a20, .ref a23, .ref a25, .ref a27])), (a1, .inr (9, [.ref a2, .int tn])), (a2, .inl (cI, 120, .inl tx)), (a3, .inr (6, [.ref a1, .ref a4, .ref a5, .int r_1.2.1, .int r_1.2.2.1, .int r_1.2.2.2.1, .int r_1.2.2.2.2.1, .int r_1.2.2.2.2.2.1])), (a4, .inr (7, [.int r_1.2.2.2.2.2.2.1, .int r_1.2.2.2.2.2.2.2.1, .int r_1.2.2.2.2.2.2.2.2.1, .int r_1.2.2.2.2.2.2.2.2.2.1, .int r_1.2.2.2.2.2.2.2.2.2.2.1, .int r_1.2.2.2.2.2.2.2.2.2.2.2.1])), (a5, .inr (3, [.ref a6, .int r_1.2.2.2.2.2.2.2.2.2.2.2.2.1])), (a6, .inl (cI, 36, .inl r_1.2.2.2.2.2.2.2.2.2.2.2.2.2)), (a7, .inr (7, [.int r_2.1, .int r_2.2.1, .int r_2.2.2.1, .int r_2.2.2.2.1, .int r_2.2.2.2.2.1, .int r_2.2.2.2.2.2])), (a8, .inr (1, [.ref a9, .ref a11, .ref a12, .ref a13, .ref a14, .ref a15, .ref a16, .int wz, .int tm])), (a9, .inr (3, [.ref a10, .int lt])), (a10, .inl (cI, 36, .inl dl)), (a11, .inl (cI, 36, .inl hp)), (a13, .inl (cI, 216, .inl md)), (a14, .inl (cI, 6, .inl ct)), (a15, .inl (cI, 6, .inl xp)), (a18, .inr (4, [.ref a19, .int la, .int ps])), (a20, .inr (0, [.ref a21, .ref a22])), (a22, .inl (cZ, 2, .inl ik)), (a27, .inr (8, [.ref a28, .ref a29, .ref a30, .int sz]))]) hx hb hml hown hk w hA (k_X7_copyFrom l D cI cZ cK a7 a4 rn re rh ra rl rf r_1.2.2.2.2.2.2.1 r_1.2.2.2.2.2.2.2.1 r_1.2.2.2.2.2.2.2.2.1 r_1.2.2.2.2.2.2.2.2.2.1 r_1.2.2.2.2.2.2.2.2.2.2.1 r_1.2.2.2.2.2.2.2.2.2.2.2.1 r_2 e_2) (me_X7_copyFrom hk.2.1) (mi_X7_copyFrom hk.2.1) (ml_X11_98 hk.2.1) ((pmn 19 [7, 4, 0, 1, 2, 3, 5, 6, 8, 9, 10, 11, 12, 13, 14, 15, 16, 17, 18] rfl rfl (by decide))) ((pmn 19 [2, 3, 4, 5, 1, 6, 7, 0, 8, 9, 10, 11, 12, 13, 14, 15, 16, 17, 18] rfl rfl (by decide))) 0 rfl rfl rfl hl.1 rfl rfl (Nat.le_of_ble_eq_true rfl) ⟨rfl, rfl, Nat.le_of_ble_eq_true rfl, Nat.le_of_ble_eq_true rfl, Nat.zero_le _, Nat.zero_le _⟩ dX11_net_29 (fun H locs w => ?_)
    refine W.eq (g2 := F0 m 32 ls []) rfl ?_
    refine lv_aload_n hx hb dX11_net_32 rfl (lv_at hl 1 rfl) ?_
    refine gf_X11_35 hx hb hown hk w.1 0 rfl rfl dX11_net_33 ?_
    refine lv_aload_n hx hb dX11_net_36 rfl (lv_at hl 1 rfl) ?_
    refine gf_X11_21 hx hb hown hk w.1 0 rfl rfl dX11_net_37 ?_
    refine gf_X11_102 hx hb hown hk w.1 3 rfl rfl dX11_net_40 ?_
    obtain ⟨r_3, e_3, h⟩ := sat_bind h
    refine cMV (rest := []) (wr := [(a0, .inr (11, [.ref a1, .ref a3, .ref a7, .ref a8, .ref a17, .ref a18, .ref a20, .ref a23, .ref a25, .ref a27])), (a1, .inr (9, [.ref a2, .int tn])), (a2, .inl (cI, 120, .inl tx)), (a3, .inr (6, [.ref a1, .ref a4, .ref a5, .int r_1.2.1, .int r_1.2.2.1, .int r_1.2.2.2.1, .int r_1.2.2.2.2.1, .int r_1.2.2.2.2.2.1])), (a4, .inr (7, [.int r_1.2.2.2.2.2.2.1, .int r_1.2.2.2.2.2.2.2.1, .int r_1.2.2.2.2.2.2.2.2.1, .int r_1.2.2.2.2.2.2.2.2.2.1, .int r_1.2.2.2.2.2.2.2.2.2.2.1, .int r_1.2.2.2.2.2.2.2.2.2.2.2.1])), (a7, .inr (7, [.int r_2.1, .int r_2.2.1, .int r_2.2.2.1, .int r_2.2.2.2.1, .int r_2.2.2.2.2.1, .int r_2.2.2.2.2.2])), (a18, .inr (4, [.ref a19, .int la, .int ps])), (a20, .inr (0, [.ref a21, .ref a22])), (a22, .inl (cZ, 2, .inl ik)), (a27, .inr (8, [.ref a28, .ref a29, .ref a30, .int sz]))]) (ws' := [(a0, .inr (11, [.ref a1, .ref a3, .ref a7, .ref a8, .ref a17, .ref a18, .ref a20, .ref a23, .ref a25, .ref a27])), (a1, .inr (9, [.ref a2, .int tn])), (a2, .inl (cI, 120, .inl tx)), (a3, .inr (6, [.ref a1, .ref a4, .ref a5, .int r_1.2.1, .int r_1.2.2.1, .int r_1.2.2.2.1, .int r_1.2.2.2.2.1, .int r_1.2.2.2.2.2.1])), (a4, .inr (7, [.int r_1.2.2.2.2.2.2.1, .int r_1.2.2.2.2.2.2.2.1, .int r_1.2.2.2.2.2.2.2.2.1, .int r_1.2.2.2.2.2.2.2.2.2.1, .int r_1.2.2.2.2.2.2.2.2.2.2.1, .int r_1.2.2.2.2.2.2.2.2.2.2.2.1])), (a5, .inr (3, [.ref a6, .int r_1.2.2.2.2.2.2.2.2.2.2.2.2.1])), (a6, .inl (cI, 36, .inl r_1.2.2.2.2.2.2.2.2.2.2.2.2.2)), (a7, .inr (7, [.int r_2.1, .int r_2.2.1, .int r_2.2.2.1, .int r_2.2.2.2.1, .int r_2.2.2.2.2.1, .int r_2.2.2.2.2.2])), (a8, .inr (1, [.ref a9, .ref a11, .ref a12, .ref a13, .ref a14, .ref a15, .ref a16, .int r_3.1, .int r_3.2.1])), (a9, .inr (3, [.ref a10, .int r_3.2.2.1])), (a10, .inl (cI, 36, .inl r_3.2.2.2.1)), (a11, .inl (cI, 36, .inl r_3.2.2.2.2.1)), (a13, .inl (cI, 216, .inl r_3.2.2.2.2.2.1)), (a14, .inl (cI, 6, .inl r_3.2.2.2.2.2.2.1)), (a15, .inl (cI, 6, .inl r_3.2.2.2.2.2.2.2)), (a18, .inr (4, [.ref a19, .int la, .int ps])), (a20, .inr (0, [.ref a21, .ref a22])), (a22, .inl (cZ, 2, .inl ik)), (a27, .inr (8, [.ref a28, .ref a29, .ref a30, .int sz]))]) hx hb hml hown hk w hA (k_X1_restart l D cI cZ cK a8 a9 a11 a12 a13 a14 a15 a16 a10 a5 a6 wz tm lt dl hp md ct xp r_1.2.2.2.2.2.2.2.2.2.2.2.2.1 r_1.2.2.2.2.2.2.2.2.2.2.2.2.2 r_3 e_3) (me_X1_restart hk.2.1) (mi_X1_restart hk.2.1) (ml_X11_106 hk.2.1) ((pmn 19 [8, 9, 10, 11, 12, 13, 14, 5, 6, 0, 1, 2, 3, 4, 7, 15, 16, 17, 18] rfl rfl (by decide))) ((pmn 19 [9, 10, 11, 12, 13, 7, 8, 14, 0, 1, 2, 3, 4, 5, 6, 15, 16, 17, 18] rfl rfl (by decide))) 0 rfl rfl rfl hl.1 rfl rfl (Nat.le_of_ble_eq_true rfl) ⟨rfl, rfl, Nat.le_of_ble_eq_true rfl, Nat.le_of_ble_eq_true rfl, Nat.zero_le _, Nat.zero_le _⟩ dX11_net_43 (fun H locs w => ?_)
    refine W.eq (g2 := F0 m 46 ls []) rfl ?_
    refine lv_aload_n hx hb dX11_net_46 rfl (lv_at hl 1 rfl) ?_
    refine gf_X11_51 hx hb hown hk w.1 0 rfl rfl dX11_net_47 ?_
    refine lv_iconst (v := 0) hx hb dX11_net_50 (by decide) ?_
    refine pf_X11_110 (ws' := [(a0, .inr (11, [.ref a1, .ref a3, .ref a7, .ref a8, .ref a17, .ref a18, .ref a20, .ref a23, .ref a25, .ref a27])), (a1, .inr (9, [.ref a2, .int tn])), (a2, .inl (cI, 120, .inl tx)), (a3, .inr (6, [.ref a1, .ref a4, .ref a5, .int r_1.2.1, .int r_1.2.2.1, .int r_1.2.2.2.1, .int r_1.2.2.2.2.1, .int r_1.2.2.2.2.2.1])), (a4, .inr (7, [.int r_1.2.2.2.2.2.2.1, .int r_1.2.2.2.2.2.2.2.1, .int r_1.2.2.2.2.2.2.2.2.1, .int r_1.2.2.2.2.2.2.2.2.2.1, .int r_1.2.2.2.2.2.2.2.2.2.2.1, .int r_1.2.2.2.2.2.2.2.2.2.2.2.1])), (a5, .inr (3, [.ref a6, .int r_1.2.2.2.2.2.2.2.2.2.2.2.2.1])), (a6, .inl (cI, 36, .inl r_1.2.2.2.2.2.2.2.2.2.2.2.2.2)), (a7, .inr (7, [.int r_2.1, .int r_2.2.1, .int r_2.2.2.1, .int r_2.2.2.2.1, .int r_2.2.2.2.2.1, .int r_2.2.2.2.2.2])), (a8, .inr (1, [.ref a9, .ref a11, .ref a12, .ref a13, .ref a14, .ref a15, .ref a16, .int r_3.1, .int r_3.2.1])), (a9, .inr (3, [.ref a10, .int r_3.2.2.1])), (a10, .inl (cI, 36, .inl r_3.2.2.2.1)), (a11, .inl (cI, 36, .inl r_3.2.2.2.2.1)), (a13, .inl (cI, 216, .inl r_3.2.2.2.2.2.1)), (a14, .inl (cI, 6, .inl r_3.2.2.2.2.2.2.1)), (a15, .inl (cI, 6, .inl r_3.2.2.2.2.2.2.2)), (a18, .inr (4, [.ref a19, .int la, .int 0])), (a20, .inr (0, [.ref a21, .ref a22])), (a22, .inl (cZ, 2, .inl ik)), (a27, .inr (8, [.ref a28, .ref a29, .ref a30, .int sz]))]) hx hb hown hk w 15 rfl (Nat.le_of_ble_eq_true rfl) rfl dX11_net_51 (fun H locs w => ?_)
    refine lv_aload_n hx hb dX11_net_54 rfl (lv_at hl 1 rfl) ?_
    refine gf_X11_58 hx hb hown hk w.1 0 rfl rfl dX11_net_55 ?_
    obtain ⟨r_4, e_4, h⟩ := sat_bind h
    refine cMV (rest := []) (wr := [(a0, .inr (11, [.ref a1, .ref a3, .ref a7, .ref a8, .ref a17, .ref a18, .ref a20, .ref a23, .ref a25, .ref a27])), (a1, .inr (9, [.ref a2, .int tn])), (a2, .inl (cI, 120, .inl tx)), (a3, .inr (6, [.ref a1, .ref a4, .ref a5, .int r_1.2.1, .int r_1.2.2.1, .int r_1.2.2.2.1, .int r_1.2.2.2.2.1, .int r_1.2.2.2.2.2.1])), (a4, .inr (7, [.int r_1.2.2.2.2.2.2.1, .int r_1.2.2.2.2.2.2.2.1, .int r_1.2.2.2.2.2.2.2.2.1, .int r_1.2.2.2.2.2.2.2.2.2.1, .int r_1.2.2.2.2.2.2.2.2.2.2.1, .int r_1.2.2.2.2.2.2.2.2.2.2.2.1])), (a5, .inr (3, [.ref a6, .int r_1.2.2.2.2.2.2.2.2.2.2.2.2.1])), (a6, .inl (cI, 36, .inl r_1.2.2.2.2.2.2.2.2.2.2.2.2.2)), (a7, .inr (7, [.int r_2.1, .int r_2.2.1, .int r_2.2.2.1, .int r_2.2.2.2.1, .int r_2.2.2.2.2.1, .int r_2.2.2.2.2.2])), (a8, .inr (1, [.ref a9, .ref a11, .ref a12, .ref a13, .ref a14, .ref a15, .ref a16, .int r_3.1, .int r_3.2.1])), (a9, .inr (3, [.ref a10, .int r_3.2.2.1])), (a10, .inl (cI, 36, .inl r_3.2.2.2.1)), (a11, .inl (cI, 36, .inl r_3.2.2.2.2.1)), (a13, .inl (cI, 216, .inl r_3.2.2.2.2.2.1)), (a14, .inl (cI, 6, .inl r_3.2.2.2.2.2.2.1)), (a15, .inl (cI, 6, .inl r_3.2.2.2.2.2.2.2)), (a18, .inr (4, [.ref a19, .int la, .int 0])), (a27, .inr (8, [.ref a28, .ref a29, .ref a30, .int sz]))]) (ws' := [(a0, .inr (11, [.ref a1, .ref a3, .ref a7, .ref a8, .ref a17, .ref a18, .ref a20, .ref a23, .ref a25, .ref a27])), (a1, .inr (9, [.ref a2, .int tn])), (a2, .inl (cI, 120, .inl tx)), (a3, .inr (6, [.ref a1, .ref a4, .ref a5, .int r_1.2.1, .int r_1.2.2.1, .int r_1.2.2.2.1, .int r_1.2.2.2.2.1, .int r_1.2.2.2.2.2.1])), (a4, .inr (7, [.int r_1.2.2.2.2.2.2.1, .int r_1.2.2.2.2.2.2.2.1, .int r_1.2.2.2.2.2.2.2.2.1, .int r_1.2.2.2.2.2.2.2.2.2.1, .int r_1.2.2.2.2.2.2.2.2.2.2.1, .int r_1.2.2.2.2.2.2.2.2.2.2.2.1])), (a5, .inr (3, [.ref a6, .int r_1.2.2.2.2.2.2.2.2.2.2.2.2.1])), (a6, .inl (cI, 36, .inl r_1.2.2.2.2.2.2.2.2.2.2.2.2.2)), (a7, .inr (7, [.int r_2.1, .int r_2.2.1, .int r_2.2.2.1, .int r_2.2.2.2.1, .int r_2.2.2.2.2.1, .int r_2.2.2.2.2.2])), (a8, .inr (1, [.ref a9, .ref a11, .ref a12, .ref a13, .ref a14, .ref a15, .ref a16, .int r_3.1, .int r_3.2.1])), (a9, .inr (3, [.ref a10, .int r_3.2.2.1])), (a10, .inl (cI, 36, .inl r_3.2.2.2.1)), (a11, .inl (cI, 36, .inl r_3.2.2.2.2.1)), (a13, .inl (cI, 216, .inl r_3.2.2.2.2.2.1)), (a14, .inl (cI, 6, .inl r_3.2.2.2.2.2.2.1)), (a15, .inl (cI, 6, .inl r_3.2.2.2.2.2.2.2)), (a18, .inr (4, [.ref a19, .int la, .int 0])), (a20, .inr (0, [.ref a21, .ref a22])), (a22, .inl (cZ, 2, .inl r_4)), (a27, .inr (8, [.ref a28, .ref a29, .ref a30, .int sz]))]) hx hb hml hown hk w hA (k_X0_drop l D cI cZ cK N a20 a21 a22 ik r_4 e_4) (me_X0_drop hk.2.1) (mi_X0_drop hk.2.1) (ml_X11_111 hk.2.1) ((pmn 19 [16, 17, 0, 1, 2, 3, 4, 5, 6, 7, 8, 9, 10, 11, 12, 13, 14, 15, 18] rfl rfl (by decide))) ((pmn 19 [2, 3, 4, 5, 6, 7, 8, 9, 10, 11, 12, 13, 14, 15, 16, 17, 0, 1, 18] rfl rfl (by decide))) 0 rfl rfl rfl hl.1 rfl rfl (Nat.le_of_ble_eq_true rfl) ⟨rfl, rfl, Nat.le_of_ble_eq_true rfl, Nat.le_of_ble_eq_true rfl, Nat.zero_le _, Nat.zero_le _⟩ dX11_net_58 (fun H locs w => ?_)
    refine W.eq (g2 := F0 m 61 ls []) rfl ?_
    refine lv_aload_n hx hb dX11_net_61 rfl (lv_at hl 1 rfl) ?_
    refine gf_X11_81 hx hb hown hk w.1 0 rfl rfl dX11_net_62 ?_
    refine lv_iconst (v := 0) hx hb dX11_net_65 (by decide) ?_
    refine pf_X11_114 (ws' := [(a0, .inr (11, [.ref a1, .ref a3, .ref a7, .ref a8, .ref a17, .ref a18, .ref a20, .ref a23, .ref a25, .ref a27])), (a1, .inr (9, [.ref a2, .int tn])), (a2, .inl (cI, 120, .inl tx)), (a3, .inr (6, [.ref a1, .ref a4, .ref a5, .int r_1.2.1, .int r_1.2.2.1, .int r_1.2.2.2.1, .int r_1.2.2.2.2.1, .int r_1.2.2.2.2.2.1])), (a4, .inr (7, [.int r_1.2.2.2.2.2.2.1, .int r_1.2.2.2.2.2.2.2.1, .int r_1.2.2.2.2.2.2.2.2.1, .int r_1.2.2.2.2.2.2.2.2.2.1, .int r_1.2.2.2.2.2.2.2.2.2.2.1, .int r_1.2.2.2.2.2.2.2.2.2.2.2.1])), (a5, .inr (3, [.ref a6, .int r_1.2.2.2.2.2.2.2.2.2.2.2.2.1])), (a6, .inl (cI, 36, .inl r_1.2.2.2.2.2.2.2.2.2.2.2.2.2)), (a7, .inr (7, [.int r_2.1, .int r_2.2.1, .int r_2.2.2.1, .int r_2.2.2.2.1, .int r_2.2.2.2.2.1, .int r_2.2.2.2.2.2])), (a8, .inr (1, [.ref a9, .ref a11, .ref a12, .ref a13, .ref a14, .ref a15, .ref a16, .int r_3.1, .int r_3.2.1])), (a9, .inr (3, [.ref a10, .int r_3.2.2.1])), (a10, .inl (cI, 36, .inl r_3.2.2.2.1)), (a11, .inl (cI, 36, .inl r_3.2.2.2.2.1)), (a13, .inl (cI, 216, .inl r_3.2.2.2.2.2.1)), (a14, .inl (cI, 6, .inl r_3.2.2.2.2.2.2.1)), (a15, .inl (cI, 6, .inl r_3.2.2.2.2.2.2.2)), (a18, .inr (4, [.ref a19, .int la, .int 0])), (a20, .inr (0, [.ref a21, .ref a22])), (a22, .inl (cZ, 2, .inl r_4)), (a27, .inr (8, [.ref a28, .ref a29, .ref a30, .int 0]))]) hx hb hown hk w 18 rfl (Nat.le_of_ble_eq_true rfl) rfl dX11_net_66 (fun H locs w => ?_)
    refine lv_aload_n hx hb dX11_net_69 rfl (lv_at hl 1 rfl) ?_
    refine gf_X11_12 hx hb hown hk w.1 0 rfl rfl dX11_net_70 ?_
    refine lv_iconst (v := 0) hx hb dX11_net_73 (by decide) ?_
    refine pf_X11_89 (ws' := [(a0, .inr (11, [.ref a1, .ref a3, .ref a7, .ref a8, .ref a17, .ref a18, .ref a20, .ref a23, .ref a25, .ref a27])), (a1, .inr (9, [.ref a2, .int 0])), (a2, .inl (cI, 120, .inl tx)), (a3, .inr (6, [.ref a1, .ref a4, .ref a5, .int r_1.2.1, .int r_1.2.2.1, .int r_1.2.2.2.1, .int r_1.2.2.2.2.1, .int r_1.2.2.2.2.2.1])), (a4, .inr (7, [.int r_1.2.2.2.2.2.2.1, .int r_1.2.2.2.2.2.2.2.1, .int r_1.2.2.2.2.2.2.2.2.1, .int r_1.2.2.2.2.2.2.2.2.2.1, .int r_1.2.2.2.2.2.2.2.2.2.2.1, .int r_1.2.2.2.2.2.2.2.2.2.2.2.1])), (a5, .inr (3, [.ref a6, .int r_1.2.2.2.2.2.2.2.2.2.2.2.2.1])), (a6, .inl (cI, 36, .inl r_1.2.2.2.2.2.2.2.2.2.2.2.2.2)), (a7, .inr (7, [.int r_2.1, .int r_2.2.1, .int r_2.2.2.1, .int r_2.2.2.2.1, .int r_2.2.2.2.2.1, .int r_2.2.2.2.2.2])), (a8, .inr (1, [.ref a9, .ref a11, .ref a12, .ref a13, .ref a14, .ref a15, .ref a16, .int r_3.1, .int r_3.2.1])), (a9, .inr (3, [.ref a10, .int r_3.2.2.1])), (a10, .inl (cI, 36, .inl r_3.2.2.2.1)), (a11, .inl (cI, 36, .inl r_3.2.2.2.2.1)), (a13, .inl (cI, 216, .inl r_3.2.2.2.2.2.1)), (a14, .inl (cI, 6, .inl r_3.2.2.2.2.2.2.1)), (a15, .inl (cI, 6, .inl r_3.2.2.2.2.2.2.2)), (a18, .inr (4, [.ref a19, .int la, .int 0])), (a20, .inr (0, [.ref a21, .ref a22])), (a22, .inl (cZ, 2, .inl r_4)), (a27, .inr (8, [.ref a28, .ref a29, .ref a30, .int 0]))]) hx hb hown hk w 1 rfl (Nat.le_of_ble_eq_true rfl) rfl dX11_net_74 (fun H locs w => ?_)
    refine lv_aload_n hx hb dX11_net_77 rfl (lv_at hl 1 rfl) ?_
    refine gf_X11_21 hx hb hown hk w.1 0 rfl rfl dX11_net_78 ?_
    refine gf_X11_115 hx hb hown hk w.1 3 rfl rfl dX11_net_81 ?_
    have hR := hC0 _ (sat_some h)
    subst hR
    exact hret _ _ _ _ w dX11_net_84
  · have h := sat_f c10 h
    refine lv_bipush (v := (-10)) hx hb dX11_net_13 (by decide) ?_
    refine lv_iload_n hx hb dX11_net_15 rfl (lv_at hl 0 rfl) ?_
    refine lv_isub hx hb dX11_net_16 ?_
    have hR := hC0 _ (sat_some h)
    subst hR
    exact hret _ _ _ _ w dX11_net_17
def f_X11_sends (N : Nat) (rn : Int32) (re : Int32) (rh : Int32) (ra : Int32) (rl : Int32) (rf : Int32) (dl : ar) (lt : Int32) (hp : ar) (gs : ar) (md : ar) (ct : ar) (xp : ar) (wn : ar) (wz : Int32) (tm : Int32) (rv : Nat → Nat → ar) (la : Int32) (ps : Int32) (x1 : Int32) (x2 : Int32) : Option (Int32 × Int32 × Int32 × ar × ar × ar × ar × ar × ar × Int32 × Int32 × (Nat → Nat → ar)) := Option.bind (f_X11_areUnlike rn x1 x2) fun r_1 => if (b2i r_1) = 0 then some ((-1), wz, tm, hp, gs, md, ct, xp, wn, la, ps, rv) else Option.bind (f_X4_push rv la ps dl lt hp gs md ct xp wn wz tm) fun r_2 => Option.bind (f_X5_deliver N rn re rh ra rl rf dl hp gs md ct xp wn tm x1 x2) fun r_3 => some (r_3.1, r_3.2.1, r_3.2.2.1, r_3.2.2.2.1, r_3.2.2.2.2.1, r_3.2.2.2.2.2.1, r_3.2.2.2.2.2.2.1, r_3.2.2.2.2.2.2.2.1, r_3.2.2.2.2.2.2.2.2, r_2.1, r_2.2.1, r_2.2.2)
abbrev rm_X11_sends : Room := { frames := 5, cells := 0, slots := 0, locals := 125 }
set_option maxRecDepth 100000 in
set_option maxHeartbeats 4000000 in
theorem k_X11_sends (l : Launch) (D : va_G) (cI cZ cK : ClassId) (N : Nat) (a0 a1 a3 a7 a8 a17 a18 a20 a23 a25 a27 a9 a11 a12 a13 a14 a15 a16 a10 a19 : Nat) (rga : Nat → Nat → Nat) (rn : Int32) (re : Int32) (rh : Int32) (ra : Int32) (rl : Int32) (rf : Int32) (wz : Int32) (tm : Int32) (lt : Int32) (dl : ar) (hp : ar) (gs : ar) (md : ar) (ct : ar) (xp : ar) (wn : ar) (la : Int32) (ps : Int32) (rv : Nat → Nat → ar) (x1 : Int32) (x2 : Int32) (R : Int32 × Int32 × Int32 × ar × ar × ar × ar × ar × ar × Int32 × Int32 × (Nat → Nat → ar)) (h : f_X11_sends N rn re rh ra rl rf dl lt hp gs md ct xp wn wz tm rv la ps x1 x2 = some R) : Mu l D cI cZ cK yX11_sends cX11_sends 3 (some .int) rm_X11_sends [.ref a0, .int x1, .int x2] ([(a0, .inr (11, [.ref a1, .ref a3, .ref a7, .ref a8, .ref a17, .ref a18, .ref a20, .ref a23, .ref a25, .ref a27])), (a7, .inr (7, [.int rn, .int re, .int rh, .int ra, .int rl, .int rf])), (a8, .inr (1, [.ref a9, .ref a11, .ref a12, .ref a13, .ref a14, .ref a15, .ref a16, .int wz, .int tm])), (a9, .inr (3, [.ref a10, .int lt])), (a10, .inl (cI, 36, .inl dl)), (a11, .inl (cI, 36, .inl hp)), (a12, .inl (cI, 216, .inl gs)), (a13, .inl (cI, 216, .inl md)), (a14, .inl (cI, 6, .inl ct)), (a15, .inl (cI, 6, .inl xp)), (a16, .inl (cI, 101, .inl wn)), (a17, .inr (5, [.ref a7, .ref a8])), (a18, .inr (4, [.ref a19, .int la, .int ps])), (a19, .inl (cK, 8, .inr (.inr (.inr (.inr (fun j => some (rga j 0)))))))] ++ rc cI rga rv 8) (some (.int R.1)) ([(a0, .inr (11, [.ref a1, .ref a3, .ref a7, .ref a8, .ref a17, .ref a18, .ref a20, .ref a23, .ref a25, .ref a27])), (a7, .inr (7, [.int rn, .int re, .int rh, .int ra, .int rl, .int rf])), (a8, .inr (1, [.ref a9, .ref a11, .ref a12, .ref a13, .ref a14, .ref a15, .ref a16, .int R.2.1, .int R.2.2.1])), (a9, .inr (3, [.ref a10, .int lt])), (a10, .inl (cI, 36, .inl dl)), (a11, .inl (cI, 36, .inl R.2.2.2.1)), (a12, .inl (cI, 216, .inl R.2.2.2.2.1)), (a13, .inl (cI, 216, .inl R.2.2.2.2.2.1)), (a14, .inl (cI, 6, .inl R.2.2.2.2.2.2.1)), (a15, .inl (cI, 6, .inl R.2.2.2.2.2.2.2.1)), (a16, .inl (cI, 101, .inl R.2.2.2.2.2.2.2.2.1)), (a17, .inr (5, [.ref a7, .ref a8])), (a18, .inr (4, [.ref a19, .int R.2.2.2.2.2.2.2.2.2.1, .int R.2.2.2.2.2.2.2.2.2.2.1])), (a19, .inl (cK, 8, .inr (.inr (.inr (.inr (fun j => some (rga j 0)))))))] ++ rc cI rga R.2.2.2.2.2.2.2.2.2.2.2 8) := by
  refine mi_of (by decide) (vp_nar_int _) (Nat.le_of_ble_eq_true rfl) ?_
  intro p e s m args below meth c Q A ls hx hb hml hown hk hA w hret hl
  have hl : lv_has ls 3 [(0, .ref a0), (1, .int x1), (2, .int x2)] := hl
  obtain ⟨C0, hC0, h⟩ := sat_top h
  unfold f_X11_sends at h
  refine lv_aload_n hx hb dX11_sends_0 rfl (lv_at hl 0 rfl) ?_
  refine lv_iload_n hx hb dX11_sends_1 rfl (lv_at hl 1 rfl) ?_
  refine lv_iload_n hx hb dX11_sends_2 rfl (lv_at hl 2 rfl) ?_
  obtain ⟨r_1, e_1, h⟩ := sat_bind h
  refine cRV (rest := []) hx hb hml hown hk (k_X11_areUnlike l D cI cZ cK a0 a1 a3 a7 a8 a17 a18 a20 a23 a25 a27 rn re rh ra rl rf x1 x2 r_1 e_1) (me_X11_areUnlike hk.2.1) (mi_X11_areUnlike hk.2.1) (ml_X11_129 hk.2.1) (w.1.sub [0, 1] rfl) 0 rfl rfl rfl hl.1 rfl rfl (Nat.le_of_ble_eq_true rfl) ⟨rfl, rfl, Nat.le_of_ble_eq_true rfl, Nat.le_of_ble_eq_true rfl, Nat.zero_le _, Nat.zero_le _⟩ dX11_sends_3 ?_
  refine lv_if_ne (tgt := 11) hx hb dX11_sends_6 (by decide) (fun c6 => ?_) (fun c6 => ?_)
  · have h := sat_f c6 h
    refine lv_aload_n hx hb dX11_sends_11 rfl (lv_at hl 0 rfl) ?_
    refine gf_X11_51 hx hb hown hk w.1 0 rfl rfl dX11_sends_12 ?_
    refine lv_aload_n hx hb dX11_sends_15 rfl (lv_at hl 0 rfl) ?_
    refine gf_X11_35 hx hb hown hk w.1 0 rfl rfl dX11_sends_16 ?_
    obtain ⟨r_2, e_2, h⟩ := sat_bind h
    refine cMV (rest := []) (wr := [(a0, .inr (11, [.ref a1, .ref a3, .ref a7, .ref a8, .ref a17, .ref a18, .ref a20, .ref a23, .ref a25, .ref a27])), (a7, .inr (7, [.int rn, .int re, .int rh, .int ra, .int rl, .int rf])), (a17, .inr (5, [.ref a7, .ref a8]))]) (ws' := ([(a0, .inr (11, [.ref a1, .ref a3, .ref a7, .ref a8, .ref a17, .ref a18, .ref a20, .ref a23, .ref a25, .ref a27])), (a7, .inr (7, [.int rn, .int re, .int rh, .int ra, .int rl, .int rf])), (a8, .inr (1, [.ref a9, .ref a11, .ref a12, .ref a13, .ref a14, .ref a15, .ref a16, .int wz, .int tm])), (a9, .inr (3, [.ref a10, .int lt])), (a10, .inl (cI, 36, .inl dl)), (a11, .inl (cI, 36, .inl hp)), (a12, .inl (cI, 216, .inl gs)), (a13, .inl (cI, 216, .inl md)), (a14, .inl (cI, 6, .inl ct)), (a15, .inl (cI, 6, .inl xp)), (a16, .inl (cI, 101, .inl wn)), (a17, .inr (5, [.ref a7, .ref a8])), (a18, .inr (4, [.ref a19, .int r_2.1, .int r_2.2.1])), (a19, .inl (cK, 8, .inr (.inr (.inr (.inr (fun j => some (rga j 0)))))))] ++ rc cI rga r_2.2.2 8)) hx hb hml hown hk w hA (k_X4_push l D cI cZ cK a18 a19 a8 a9 a11 a12 a13 a14 a15 a16 a10 rga la ps wz tm lt dl hp gs md ct xp wn rv r_2 e_2) (me_X4_push hk.2.1) (mi_X4_push hk.2.1) (ml_X11_133 hk.2.1) (pmC (pmn 14 [12, 13, 2, 3, 4, 5, 6, 7, 8, 9, 10, 0, 1, 11] rfl rfl (by decide))) (pmCb (pmn 14 [11, 12, 2, 3, 4, 5, 6, 7, 8, 9, 10, 13, 0, 1] rfl rfl (by decide))) 0 rfl rfl rfl hl.1 rfl rfl (Nat.le_of_ble_eq_true rfl) ⟨rfl, rfl, Nat.le_of_ble_eq_true rfl, Nat.le_of_ble_eq_true rfl, Nat.zero_le _, Nat.zero_le _⟩ dX11_sends_19 (fun H locs w => ?_)
    refine W.eq (g2 := F0 m 22 ls []) rfl ?_
    refine lv_aload_n hx hb dX11_sends_22 rfl (lv_at hl 0 rfl) ?_
    refine gf_X11_44 hx hb hown hk w.1 0 rfl rfl dX11_sends_23 ?_
    refine lv_iload_n hx hb dX11_sends_26 rfl (lv_at hl 1 rfl) ?_
    refine lv_iload_n hx hb dX11_sends_27 rfl (lv_at hl 2 rfl) ?_
    obtain ⟨r_3, e_3, h⟩ := sat_bind h
    refine cMV (rest := []) (wr := ([(a0, .inr (11, [.ref a1, .ref a3, .ref a7, .ref a8, .ref a17, .ref a18, .ref a20, .ref a23, .ref a25, .ref a27])), (a18, .inr (4, [.ref a19, .int r_2.1, .int r_2.2.1])), (a19, .inl (cK, 8, .inr (.inr (.inr (.inr (fun j => some (rga j 0)))))))] ++ rc cI rga r_2.2.2 8)) (ws' := ([(a0, .inr (11, [.ref a1, .ref a3, .ref a7, .ref a8, .ref a17, .ref a18, .ref a20, .ref a23, .ref a25, .ref a27])), (a7, .inr (7, [.int rn, .int re, .int rh, .int ra, .int rl, .int rf])), (a8, .inr (1, [.ref a9, .ref a11, .ref a12, .ref a13, .ref a14, .ref a15, .ref a16, .int r_3.2.1, .int r_3.2.2.1])), (a9, .inr (3, [.ref a10, .int lt])), (a10, .inl (cI, 36, .inl dl)), (a11, .inl (cI, 36, .inl r_3.2.2.2.1)), (a12, .inl (cI, 216, .inl r_3.2.2.2.2.1)), (a13, .inl (cI, 216, .inl r_3.2.2.2.2.2.1)), (a14, .inl (cI, 6, .inl r_3.2.2.2.2.2.2.1)), (a15, .inl (cI, 6, .inl r_3.2.2.2.2.2.2.2.1)), (a16, .inl (cI, 101, .inl r_3.2.2.2.2.2.2.2.2)), (a17, .inr (5, [.ref a7, .ref a8])), (a18, .inr (4, [.ref a19, .int r_2.1, .int r_2.2.1])), (a19, .inl (cK, 8, .inr (.inr (.inr (.inr (fun j => some (rga j 0)))))))] ++ rc cI rga r_2.2.2 8)) hx hb hml hown hk w hA (k_X5_deliver l D cI cZ cK N a17 a7 a8 a9 a11 a12 a13 a14 a15 a16 a10 rn re rh ra rl rf wz tm lt dl hp gs md ct xp wn x1 x2 r_3 e_3) (me_X5_deliver hk.2.1) (mi_X5_deliver hk.2.1) (ml_X11_137 hk.2.1) (pmT (pmn 14 [11, 1, 2, 3, 4, 5, 6, 7, 8, 9, 10, 0, 12, 13] rfl rfl (by decide))) (pmTb (pmn 14 [11, 1, 2, 3, 4, 5, 6, 7, 8, 9, 10, 0, 12, 13] rfl rfl (by decide))) 0 rfl rfl rfl hl.1 rfl rfl (Nat.le_of_ble_eq_true rfl) ⟨rfl, rfl, Nat.le_of_ble_eq_true rfl, Nat.le_of_ble_eq_true rfl, Nat.zero_le _, Nat.zero_le _⟩ dX11_sends_28 (fun H locs w => ?_)
    refine W.eq (g2 := F0 m 31 ls [.int r_3.1]) rfl ?_
    have hR := hC0 _ (sat_some h)
    subst hR
    exact hret _ _ _ _ w dX11_sends_31
  · have h := sat_t c6 h
    refine lv_iconst (v := (-1)) hx hb dX11_sends_9 (by decide) ?_
    have hR := hC0 _ (sat_some h)
    subst hR
    exact hret _ _ _ _ w dX11_sends_10
def f_X11_rounds_L27 (rn : Int32) (re : Int32) (rh : Int32) (ra : Int32) (rl : Int32) (rf : Int32) (dl : ar) (x1 : Int32) (N : Nat) : Nat → Int32 → Int32 → Int32 → Int32 → ar → ar → ar → ar → ar → ar → Option (Int32 × Int32 × Int32 × ar × ar × ar × ar × ar × ar)
  | 0, _, _, _, _, _, _, _, _, _, _ => none
  | n + 1, x2_27, x3_27, wz_27, tm_27, hp_27, gs_27, md_27, ct_27, xp_27, wn_27 => if x1 ≤ x3_27 then some (x2_27, wz_27, tm_27, hp_27, gs_27, md_27, ct_27, xp_27, wn_27) else Option.bind (f_X5_deliverRound N rn re rh ra rl rf dl hp_27 gs_27 md_27 ct_27 xp_27 wn_27 wz_27 tm_27) fun r_2 => f_X11_rounds_L27 rn re rh ra rl rf dl x1 N n (x2_27 + r_2.1) (x3_27 + 1) r_2.2.1 r_2.2.2.1 r_2.2.2.2.1 r_2.2.2.2.2.1 r_2.2.2.2.2.2.1 r_2.2.2.2.2.2.2.1 r_2.2.2.2.2.2.2.2.1 r_2.2.2.2.2.2.2.2.2
def f_X11_rounds (N : Nat) (rn : Int32) (re : Int32) (rh : Int32) (ra : Int32) (rl : Int32) (rf : Int32) (dl : ar) (lt : Int32) (hp : ar) (gs : ar) (md : ar) (ct : ar) (xp : ar) (wn : ar) (wz : Int32) (tm : Int32) (rv : Nat → Nat → ar) (la : Int32) (ps : Int32) (x1 : Int32) : Option (Int32 × Int32 × Int32 × ar × ar × ar × ar × ar × ar × Int32 × Int32 × (Nat → Nat → ar)) := if x1 < 1 then some ((-1), wz, tm, hp, gs, md, ct, xp, wn, la, ps, rv) else if x1 ≤ 4 then Option.bind (f_X4_push rv la ps dl lt hp gs md ct xp wn wz tm) fun r_1 => Option.bind (f_X11_rounds_L27 rn re rh ra rl rf dl x1 N N 0 0 wz tm hp gs md ct xp wn) fun s27 => some (s27.1, s27.2.1, s27.2.2.1, s27.2.2.2.1, s27.2.2.2.2.1, s27.2.2.2.2.2.1, s27.2.2.2.2.2.2.1, s27.2.2.2.2.2.2.2.1, s27.2.2.2.2.2.2.2.2, r_1.1, r_1.2.1, r_1.2.2) else some ((-1), wz, tm, hp, gs, md, ct, xp, wn, la, ps, rv)
abbrev rm_X11_rounds : Room := { frames := 6, cells := 0, slots := 0, locals := 148 }
set_option maxRecDepth 100000 in
set_option maxHeartbeats 4000000 in
theorem k_X11_rounds (l : Launch) (D : va_G) (cI cZ cK : ClassId) (N : Nat) (a0 a1 a3 a7 a8 a17 a18 a20 a23 a25 a27 a9 a11 a12 a13 a14 a15 a16 a10 a19 : Nat) (rga : Nat → Nat → Nat) (rn : Int32) (re : Int32) (rh : Int32) (ra : Int32) (rl : Int32) (rf : Int32) (wz : Int32) (tm : Int32) (lt : Int32) (dl : ar) (hp : ar) (gs : ar) (md : ar) (ct : ar) (xp : ar) (wn : ar) (la : Int32) (ps : Int32) (rv : Nat → Nat → ar) (x1 : Int32) (R : Int32 × Int32 × Int32 × ar × ar × ar × ar × ar × ar × Int32 × Int32 × (Nat → Nat → ar)) (h : f_X11_rounds N rn re rh ra rl rf dl lt hp gs md ct xp wn wz tm rv la ps x1 = some R) : Mu l D cI cZ cK yX11_rounds cX11_rounds 4 (some .int) rm_X11_rounds [.ref a0, .int x1] ([(a0, .inr (11, [.ref a1, .ref a3, .ref a7, .ref a8, .ref a17, .ref a18, .ref a20, .ref a23, .ref a25, .ref a27])), (a7, .inr (7, [.int rn, .int re, .int rh, .int ra, .int rl, .int rf])), (a8, .inr (1, [.ref a9, .ref a11, .ref a12, .ref a13, .ref a14, .ref a15, .ref a16, .int wz, .int tm])), (a9, .inr (3, [.ref a10, .int lt])), (a10, .inl (cI, 36, .inl dl)), (a11, .inl (cI, 36, .inl hp)), (a12, .inl (cI, 216, .inl gs)), (a13, .inl (cI, 216, .inl md)), (a14, .inl (cI, 6, .inl ct)), (a15, .inl (cI, 6, .inl xp)), (a16, .inl (cI, 101, .inl wn)), (a17, .inr (5, [.ref a7, .ref a8])), (a18, .inr (4, [.ref a19, .int la, .int ps])), (a19, .inl (cK, 8, .inr (.inr (.inr (.inr (fun j => some (rga j 0)))))))] ++ rc cI rga rv 8) (some (.int R.1)) ([(a0, .inr (11, [.ref a1, .ref a3, .ref a7, .ref a8, .ref a17, .ref a18, .ref a20, .ref a23, .ref a25, .ref a27])), (a7, .inr (7, [.int rn, .int re, .int rh, .int ra, .int rl, .int rf])), (a8, .inr (1, [.ref a9, .ref a11, .ref a12, .ref a13, .ref a14, .ref a15, .ref a16, .int R.2.1, .int R.2.2.1])), (a9, .inr (3, [.ref a10, .int lt])), (a10, .inl (cI, 36, .inl dl)), (a11, .inl (cI, 36, .inl R.2.2.2.1)), (a12, .inl (cI, 216, .inl R.2.2.2.2.1)), (a13, .inl (cI, 216, .inl R.2.2.2.2.2.1)), (a14, .inl (cI, 6, .inl R.2.2.2.2.2.2.1)), (a15, .inl (cI, 6, .inl R.2.2.2.2.2.2.2.1)), (a16, .inl (cI, 101, .inl R.2.2.2.2.2.2.2.2.1)), (a17, .inr (5, [.ref a7, .ref a8])), (a18, .inr (4, [.ref a19, .int R.2.2.2.2.2.2.2.2.2.1, .int R.2.2.2.2.2.2.2.2.2.2.1])), (a19, .inl (cK, 8, .inr (.inr (.inr (.inr (fun j => some (rga j 0)))))))] ++ rc cI rga R.2.2.2.2.2.2.2.2.2.2.2 8) := by
  refine mi_of (by decide) (vp_nar_int _) (Nat.le_of_ble_eq_true rfl) ?_
  intro p e s m args below meth c Q A ls hx hb hml hown hk hA w hret hl
  have hl : lv_has ls 4 [(0, .ref a0), (1, .int x1)] := hl
  obtain ⟨C0, hC0, h⟩ := sat_top h
  unfold f_X11_rounds at h
  refine lv_iload_n hx hb dX11_rounds_0 rfl (lv_at hl 1 rfl) ?_
  refine lv_iconst (v := 1) hx hb dX11_rounds_1 (by decide) ?_
  refine lv_icmp_lt (tgt := 10) hx hb dX11_rounds_2 (by decide) (fun c2 => ?_) (fun c2 => ?_)
  · have h := sat_t c2 h
    refine lv_iconst (v := (-1)) hx hb dX11_rounds_10 (by decide) ?_
    have hR := hC0 _ (sat_some h)
    subst hR
    exact hret _ _ _ _ w dX11_rounds_11
  · have h := sat_f c2 h
    refine lv_iload_n hx hb dX11_rounds_5 rfl (lv_at hl 1 rfl) ?_
    refine lv_iconst (v := 4) hx hb dX11_rounds_6 (by decide) ?_
    refine lv_icmp_le (tgt := 12) hx hb dX11_rounds_7 (by decide) (fun c7 => ?_) (fun c7 => ?_)
    · have h := sat_t c7 h
      refine lv_aload_n hx hb dX11_rounds_12 rfl (lv_at hl 0 rfl) ?_
      refine gf_X11_51 hx hb hown hk w.1 0 rfl rfl dX11_rounds_13 ?_
      refine lv_aload_n hx hb dX11_rounds_16 rfl (lv_at hl 0 rfl) ?_
      refine gf_X11_35 hx hb hown hk w.1 0 rfl rfl dX11_rounds_17 ?_
      obtain ⟨r_1, e_1, h⟩ := sat_bind h
      refine cMV (rest := []) (wr := [(a0, .inr (11, [.ref a1, .ref a3, .ref a7, .ref a8, .ref a17, .ref a18, .ref a20, .ref a23, .ref a25, .ref a27])), (a7, .inr (7, [.int rn, .int re, .int rh, .int ra, .int rl, .int rf])), (a17, .inr (5, [.ref a7, .ref a8]))]) (ws' := ([(a0, .inr (11, [.ref a1, .ref a3, .ref a7, .ref a8, .ref a17, .ref a18, .ref a20, .ref a23, .ref a25, .ref a27])), (a7, .inr (7, [.int rn, .int re, .int rh, .int ra, .int rl, .int rf])), (a8, .inr (1, [.ref a9, .ref a11, .ref a12, .ref a13, .ref a14, .ref a15, .ref a16, .int wz, .int tm])), (a9, .inr (3, [.ref a10, .int lt])), (a10, .inl (cI, 36, .inl dl)), (a11, .inl (cI, 36, .inl hp)), (a12, .inl (cI, 216, .inl gs)), (a13, .inl (cI, 216, .inl md)), (a14, .inl (cI, 6, .inl ct)), (a15, .inl (cI, 6, .inl xp)), (a16, .inl (cI, 101, .inl wn)), (a17, .inr (5, [.ref a7, .ref a8])), (a18, .inr (4, [.ref a19, .int r_1.1, .int r_1.2.1])), (a19, .inl (cK, 8, .inr (.inr (.inr (.inr (fun j => some (rga j 0)))))))] ++ rc cI rga r_1.2.2 8)) hx hb hml hown hk w hA (k_X4_push l D cI cZ cK a18 a19 a8 a9 a11 a12 a13 a14 a15 a16 a10 rga la ps wz tm lt dl hp gs md ct xp wn rv r_1 e_1) (me_X4_push hk.2.1) (mi_X4_push hk.2.1) (ml_X11_133 hk.2.1) (pmC (pmn 14 [12, 13, 2, 3, 4, 5, 6, 7, 8, 9, 10, 0, 1, 11] rfl rfl (by decide))) (pmCb (pmn 14 [11, 12, 2, 3, 4, 5, 6, 7, 8, 9, 10, 13, 0, 1] rfl rfl (by decide))) 0 rfl rfl rfl hl.1 rfl rfl (Nat.le_of_ble_eq_true rfl) ⟨rfl, rfl, Nat.le_of_ble_eq_true rfl, Nat.le_of_ble_eq_true rfl, Nat.zero_le _, Nat.zero_le _⟩ dX11_rounds_20 (fun H locs w => ?_)
      refine W.eq (g2 := F0 m 23 ls []) rfl ?_
      refine lv_iconst (v := 0) hx hb dX11_rounds_23 (by decide) ?_
      refine lv_istore_n (lv' := [(2, .int 0), (0, .ref a0), (1, .int x1)]) hx hb dX11_rounds_24 rfl hl (by decide) rfl (fun ls hl => ?_)
      refine lv_iconst (v := 0) hx hb dX11_rounds_25 (by decide) ?_
      refine lv_istore_n (lv' := [(3, .int 0), (2, .int 0), (0, .ref a0), (1, .int x1)]) hx hb dX11_rounds_26 rfl hl (by decide) rfl (fun ls hl => ?_)
      obtain ⟨T27, hT27, h⟩ := sat_reg h
      have E27 : ∀ (e2_3 : Int32) (wz_4 : Int32) (tm_5 : Int32) (hp_6 : ar) (gs_7 : ar) (md_8 : ar) (ct_9 : ar) (xp_10 : ar) (wn_11 : ar) (H : Heap) (locs : List Loc) (ls : Array Slot), T27 (e2_3, wz_4, tm_5, hp_6, gs_7, md_8, ct_9, xp_10, wn_11) → wd D A s.heap H locs ([(a0, .inr (11, [.ref a1, .ref a3, .ref a7, .ref a8, .ref a17, .ref a18, .ref a20, .ref a23, .ref a25, .ref a27])), (a7, .inr (7, [.int rn, .int re, .int rh, .int ra, .int rl, .int rf])), (a8, .inr (1, [.ref a9, .ref a11, .ref a12, .ref a13, .ref a14, .ref a15, .ref a16, .int wz_4, .int tm_5])), (a9, .inr (3, [.ref a10, .int lt])), (a10, .inl (cI, 36, .inl dl)), (a11, .inl (cI, 36, .inl hp_6)), (a12, .inl (cI, 216, .inl gs_7)), (a13, .inl (cI, 216, .inl md_8)), (a14, .inl (cI, 6, .inl ct_9)), (a15, .inl (cI, 6, .inl xp_10)), (a16, .inl (cI, 101, .inl wn_11)), (a17, .inr (5, [.ref a7, .ref a8])), (a18, .inr (4, [.ref a19, .int r_1.1, .int r_1.2.1])), (a19, .inl (cK, 8, .inr (.inr (.inr (.inr (fun j => some (rga j 0)))))))] ++ rc cI rga r_1.2.2 8) → lv_has ls 4 [(2, .int e2_3)] → W p l e rm_X11_rounds s m args below meth c H locs 0 0 Q (F0 m 48 ls []) := by
        intro e2_3 wz_4 tm_5 hp_6 gs_7 md_8 ct_9 xp_10 wn_11 H locs ls h w hl
        have h := hT27 _ h
        dsimp only at h
        refine lv_iload_n hx hb dX11_rounds_48 rfl (lv_at hl 0 rfl) ?_
        have hR := hC0 _ (sat_some h)
        subst hR
        exact hret _ _ _ _ w dX11_rounds_49
      have L27 : ∀ (n : Nat) (x2_27 : Int32) (x3_27 : Int32) (wz_27 : Int32) (tm_27 : Int32) (hp_27 : ar) (gs_27 : ar) (md_27 : ar) (ct_27 : ar) (xp_27 : ar) (wn_27 : ar) (H : Heap) (locs : List Loc) (ls : Array Slot), sat (f_X11_rounds_L27 rn re rh ra rl rf dl x1 N n x2_27 x3_27 wz_27 tm_27 hp_27 gs_27 md_27 ct_27 xp_27 wn_27) T27 → wd D A s.heap H locs ([(a0, .inr (11, [.ref a1, .ref a3, .ref a7, .ref a8, .ref a17, .ref a18, .ref a20, .ref a23, .ref a25, .ref a27])), (a7, .inr (7, [.int rn, .int re, .int rh, .int ra, .int rl, .int rf])), (a8, .inr (1, [.ref a9, .ref a11, .ref a12, .ref a13, .ref a14, .ref a15, .ref a16, .int wz_27, .int tm_27])), (a9, .inr (3, [.ref a10, .int lt])), (a10, .inl (cI, 36, .inl dl)), (a11, .inl (cI, 36, .inl hp_27)), (a12, .inl (cI, 216, .inl gs_27)), (a13, .inl (cI, 216, .inl md_27)), (a14, .inl (cI, 6, .inl ct_27)), (a15, .inl (cI, 6, .inl xp_27)), (a16, .inl (cI, 101, .inl wn_27)), (a17, .inr (5, [.ref a7, .ref a8])), (a18, .inr (4, [.ref a19, .int r_1.1, .int r_1.2.1])), (a19, .inl (cK, 8, .inr (.inr (.inr (.inr (fun j => some (rga j 0)))))))] ++ rc cI rga r_1.2.2 8) → lv_has ls 4 [(0, .ref a0), (1, .int x1), (2, .int x2_27), (3, .int x3_27)] → W p l e rm_X11_rounds s m args below meth c H locs 0 0 Q (F0 m 27 ls []) := by
        intro n
        induction n with
        | zero =>
          intro x2_27 x3_27 wz_27 tm_27 hp_27 gs_27 md_27 ct_27 xp_27 wn_27 H locs ls h
          rw [f_X11_rounds_L27] at h
          exact (sat_none h).elim
        | succ n ih =>
          intro x2_27 x3_27 wz_27 tm_27 hp_27 gs_27 md_27 ct_27 xp_27 wn_27 H locs ls h w hl
          rw [f_X11_rounds_L27] at h
          refine lv_iload_n hx hb dX11_rounds_27 rfl (lv_at hl 3 rfl) ?_
          refine lv_iload_n hx hb dX11_rounds_28 rfl (lv_at hl 1 rfl) ?_
          refine lv_icmp_ge (tgt := 48) hx hb dX11_rounds_29 (by decide) (fun c29 => ?_) (fun c29 => ?_)
          · have h := sat_t c29 h
            exact E27 x2_27 wz_27 tm_27 hp_27 gs_27 md_27 ct_27 xp_27 wn_27 _ _ _ (sat_some h) w (lv_sub hl [2] rfl)
          · have h := sat_f c29 h
            refine lv_iload_n hx hb dX11_rounds_32 rfl (lv_at hl 2 rfl) ?_
            refine lv_aload_n hx hb dX11_rounds_33 rfl (lv_at hl 0 rfl) ?_
            refine gf_X11_44 hx hb hown hk w.1 0 rfl rfl dX11_rounds_34 ?_
            obtain ⟨r_2, e_2, h⟩ := sat_bind h
            refine cMV (rest := [.int x2_27]) (wr := ([(a0, .inr (11, [.ref a1, .ref a3, .ref a7, .ref a8, .ref a17, .ref a18, .ref a20, .ref a23, .ref a25, .ref a27])), (a18, .inr (4, [.ref a19, .int r_1.1, .int r_1.2.1])), (a19, .inl (cK, 8, .inr (.inr (.inr (.inr (fun j => some (rga j 0)))))))] ++ rc cI rga r_1.2.2 8)) (ws' := ([(a0, .inr (11, [.ref a1, .ref a3, .ref a7, .ref a8, .ref a17, .ref a18, .ref a20, .ref a23, .ref a25, .ref a27])), (a7, .inr (7, [.int rn, .int re, .int rh, .int ra, .int rl, .int rf])), (a8, .inr (1, [.ref a9, .ref a11, .ref a12, .ref a13, .ref a14, .ref a15, .ref a16, .int r_2.2.1, .int r_2.2.2.1])), (a9, .inr (3, [.ref a10, .int lt])), (a10, .inl (cI, 36, .inl dl)), (a11, .inl (cI, 36, .inl r_2.2.2.2.1)), (a12, .inl (cI, 216, .inl r_2.2.2.2.2.1)), (a13, .inl (cI, 216, .inl r_2.2.2.2.2.2.1)), (a14, .inl (cI, 6, .inl r_2.2.2.2.2.2.2.1)), (a15, .inl (cI, 6, .inl r_2.2.2.2.2.2.2.2.1)), (a16, .inl (cI, 101, .inl r_2.2.2.2.2.2.2.2.2)), (a17, .inr (5, [.ref a7, .ref a8])), (a18, .inr (4, [.ref a19, .int r_1.1, .int r_1.2.1])), (a19, .inl (cK, 8, .inr (.inr (.inr (.inr (fun j => some (rga j 0)))))))] ++ rc cI rga r_1.2.2 8)) hx hb hml hown hk w hA (k_X5_deliverRound l D cI cZ cK N a17 a7 a8 a9 a11 a12 a13 a14 a15 a16 a10 rn re rh ra rl rf wz_27 tm_27 lt dl hp_27 gs_27 md_27 ct_27 xp_27 wn_27 r_2 e_2) (me_X5_deliverRound hk.2.1) (mi_X5_deliverRound hk.2.1) (ml_X11_141 hk.2.1) (pmT (pmn 14 [11, 1, 2, 3, 4, 5, 6, 7, 8, 9, 10, 0, 12, 13] rfl rfl (by decide))) (pmTb (pmn 14 [11, 1, 2, 3, 4, 5, 6, 7, 8, 9, 10, 0, 12, 13] rfl rfl (by decide))) 0 rfl rfl rfl hl.1 rfl rfl (Nat.le_of_ble_eq_true rfl) ⟨rfl, rfl, Nat.le_of_ble_eq_true rfl, Nat.le_of_ble_eq_true rfl, Nat.zero_le _, Nat.zero_le _⟩ dX11_rounds_37 (fun H locs w => ?_)
            refine W.eq (g2 := F0 m 40 ls [.int r_2.1, .int x2_27]) rfl ?_
            refine lv_iadd hx hb dX11_rounds_40 ?_
            refine lv_istore_n (lv' := [(2, .int (x2_27 + r_2.1)), (0, .ref a0), (1, .int x1), (3, .int x3_27)]) hx hb dX11_rounds_41 rfl hl (by decide) rfl (fun ls hl => ?_)
            refine lv_iinc (v := x3_27 + 1) (lv' := [(3, .int (x3_27 + 1)), (2, .int (x2_27 + r_2.1)), (0, .ref a0), (1, .int x1)]) hx hb dX11_rounds_42 hl (k := 3) rfl (congrArg (fun z => x3_27 + z) (by decide)) (by decide) rfl (fun ls hl => ?_)
            refine lv_goto (tgt := 27) hx hb dX11_rounds_45 (by decide) ?_
            exact ih (x2_27 + r_2.1) (x3_27 + 1) r_2.2.1 r_2.2.2.1 r_2.2.2.2.1 r_2.2.2.2.2.1 r_2.2.2.2.2.2.1 r_2.2.2.2.2.2.2.1 r_2.2.2.2.2.2.2.2.1 r_2.2.2.2.2.2.2.2.2 _ _ _ h w (lv_sub hl [2, 3, 1, 0] rfl)
      exact L27 N 0 0 wz tm hp gs md ct xp wn _ _ _ h w (lv_sub hl [2, 3, 1, 0] rfl)
    · have h := sat_f c7 h
      refine lv_iconst (v := (-1)) hx hb dX11_rounds_10 (by decide) ?_
      have hR := hC0 _ (sat_some h)
      subst hR
      exact hret _ _ _ _ w dX11_rounds_11
def f_X11_cuts (N : Nat) (dl : ar) (lt : Int32) (hp : ar) (gs : ar) (md : ar) (ct : ar) (xp : ar) (wn : ar) (wz : Int32) (tm : Int32) (rv : Nat → Nat → ar) (la : Int32) (ps : Int32) (x1 : Int32) : Option (Int32 × Int32 × ar × ar × ar × Int32 × Int32 × (Nat → Nat → ar)) := Option.bind (f_X3_pairOf N dl lt x1) fun r_1 => if r_1 = (-1) then some ((-1), lt, dl, hp, md, la, ps, rv) else Option.bind (f_X4_push rv la ps dl lt hp gs md ct xp wn wz tm) fun r_2 => Option.bind (f_X1_takeAway N dl lt hp md (r_1 / 6) (r_1 - r_1 / 6 * 6)) fun r_3 => some (r_3.1, r_3.1, r_3.2.1, r_3.2.2.1, r_3.2.2.2, r_2.1, r_2.2.1, r_2.2.2)
abbrev rm_X11_cuts : Room := { frames := 4, cells := 0, slots := 0, locals := 88 }
set_option maxRecDepth 100000 in
set_option maxHeartbeats 4000000 in
theorem k_X11_cuts (l : Launch) (D : va_G) (cI cZ cK : ClassId) (N : Nat) (a0 a1 a3 a7 a8 a17 a18 a20 a23 a25 a27 a9 a11 a12 a13 a14 a15 a16 a10 a19 : Nat) (rga : Nat → Nat → Nat) (wz : Int32) (tm : Int32) (lt : Int32) (dl : ar) (hp : ar) (gs : ar) (md : ar) (ct : ar) (xp : ar) (wn : ar) (la : Int32) (ps : Int32) (rv : Nat → Nat → ar) (x1 : Int32) (R : Int32 × Int32 × ar × ar × ar × Int32 × Int32 × (Nat → Nat → ar)) (h : f_X11_cuts N dl lt hp gs md ct xp wn wz tm rv la ps x1 = some R) : Mu l D cI cZ cK yX11_cuts cX11_cuts 3 (some .int) rm_X11_cuts [.ref a0, .int x1] ([(a0, .inr (11, [.ref a1, .ref a3, .ref a7, .ref a8, .ref a17, .ref a18, .ref a20, .ref a23, .ref a25, .ref a27])), (a8, .inr (1, [.ref a9, .ref a11, .ref a12, .ref a13, .ref a14, .ref a15, .ref a16, .int wz, .int tm])), (a9, .inr (3, [.ref a10, .int lt])), (a10, .inl (cI, 36, .inl dl)), (a11, .inl (cI, 36, .inl hp)), (a12, .inl (cI, 216, .inl gs)), (a13, .inl (cI, 216, .inl md)), (a14, .inl (cI, 6, .inl ct)), (a15, .inl (cI, 6, .inl xp)), (a16, .inl (cI, 101, .inl wn)), (a18, .inr (4, [.ref a19, .int la, .int ps])), (a19, .inl (cK, 8, .inr (.inr (.inr (.inr (fun j => some (rga j 0)))))))] ++ rc cI rga rv 8) (some (.int R.1)) ([(a0, .inr (11, [.ref a1, .ref a3, .ref a7, .ref a8, .ref a17, .ref a18, .ref a20, .ref a23, .ref a25, .ref a27])), (a8, .inr (1, [.ref a9, .ref a11, .ref a12, .ref a13, .ref a14, .ref a15, .ref a16, .int wz, .int tm])), (a9, .inr (3, [.ref a10, .int R.2.1])), (a10, .inl (cI, 36, .inl R.2.2.1)), (a11, .inl (cI, 36, .inl R.2.2.2.1)), (a12, .inl (cI, 216, .inl gs)), (a13, .inl (cI, 216, .inl R.2.2.2.2.1)), (a14, .inl (cI, 6, .inl ct)), (a15, .inl (cI, 6, .inl xp)), (a16, .inl (cI, 101, .inl wn)), (a18, .inr (4, [.ref a19, .int R.2.2.2.2.2.1, .int R.2.2.2.2.2.2.1])), (a19, .inl (cK, 8, .inr (.inr (.inr (.inr (fun j => some (rga j 0)))))))] ++ rc cI rga R.2.2.2.2.2.2.2 8) := by
  refine mi_of (by decide) (vp_nar_int _) (Nat.le_of_ble_eq_true rfl) ?_
  intro p e s m args below meth c Q A ls hx hb hml hown hk hA w hret hl
  have hl : lv_has ls 3 [(0, .ref a0), (1, .int x1)] := hl
  obtain ⟨C0, hC0, h⟩ := sat_top h
  unfold f_X11_cuts at h
  refine lv_aload_n hx hb dX11_cuts_0 rfl (lv_at hl 0 rfl) ?_
  refine gf_X11_35 hx hb hown hk w.1 0 rfl rfl dX11_cuts_1 ?_
  refine gf_X11_118 hx hb hown hk w.1 1 rfl rfl dX11_cuts_4 ?_
  refine lv_iload_n hx hb dX11_cuts_7 rfl (lv_at hl 1 rfl) ?_
  obtain ⟨r_1, e_1, h⟩ := sat_bind h
  refine cRV (rest := []) hx hb hml hown hk (k_X3_pairOf l D cI cZ cK N a9 a10 lt dl x1 r_1 e_1) (me_X3_pairOf hk.2.1) (mi_X3_pairOf hk.2.1) (ml_X11_119 hk.2.1) (w.1.sub [2, 3] rfl) 0 rfl rfl rfl hl.1 rfl rfl (Nat.le_of_ble_eq_true rfl) ⟨rfl, rfl, Nat.le_of_ble_eq_true rfl, Nat.le_of_ble_eq_true rfl, Nat.zero_le _, Nat.zero_le _⟩ dX11_cuts_8 ?_
  refine lv_istore_n (lv' := [(2, .int r_1), (0, .ref a0), (1, .int x1)]) hx hb dX11_cuts_11 rfl hl (by decide) rfl (fun ls hl => ?_)
  refine lv_iload_n hx hb dX11_cuts_12 rfl (lv_at hl 0 rfl) ?_
  refine lv_iconst (v := (-1)) hx hb dX11_cuts_13 (by decide) ?_
  refine lv_icmp_ne (tgt := 19) hx hb dX11_cuts_14 (by decide) (fun c14 => ?_) (fun c14 => ?_)
  · have h := sat_f c14 h
    refine lv_aload_n hx hb dX11_cuts_19 rfl (lv_at hl 1 rfl) ?_
    refine gf_X11_51 hx hb hown hk w.1 0 rfl rfl dX11_cuts_20 ?_
    refine lv_aload_n hx hb dX11_cuts_23 rfl (lv_at hl 1 rfl) ?_
    refine gf_X11_35 hx hb hown hk w.1 0 rfl rfl dX11_cuts_24 ?_
    obtain ⟨r_2, e_2, h⟩ := sat_bind h
    refine cMV (rest := []) (wr := [(a0, .inr (11, [.ref a1, .ref a3, .ref a7, .ref a8, .ref a17, .ref a18, .ref a20, .ref a23, .ref a25, .ref a27]))]) (ws' := ([(a0, .inr (11, [.ref a1, .ref a3, .ref a7, .ref a8, .ref a17, .ref a18, .ref a20, .ref a23, .ref a25, .ref a27])), (a8, .inr (1, [.ref a9, .ref a11, .ref a12, .ref a13, .ref a14, .ref a15, .ref a16, .int wz, .int tm])), (a9, .inr (3, [.ref a10, .int lt])), (a10, .inl (cI, 36, .inl dl)), (a11, .inl (cI, 36, .inl hp)), (a12, .inl (cI, 216, .inl gs)), (a13, .inl (cI, 216, .inl md)), (a14, .inl (cI, 6, .inl ct)), (a15, .inl (cI, 6, .inl xp)), (a16, .inl (cI, 101, .inl wn)), (a18, .inr (4, [.ref a19, .int r_2.1, .int r_2.2.1])), (a19, .inl (cK, 8, .inr (.inr (.inr (.inr (fun j => some (rga j 0)))))))] ++ rc cI rga r_2.2.2 8)) hx hb hml hown hk w hA (k_X4_push l D cI cZ cK a18 a19 a8 a9 a11 a12 a13 a14 a15 a16 a10 rga la ps wz tm lt dl hp gs md ct xp wn rv r_2 e_2) (me_X4_push hk.2.1) (mi_X4_push hk.2.1) (ml_X11_133 hk.2.1) (pmC (pmn 12 [10, 11, 1, 2, 3, 4, 5, 6, 7, 8, 9, 0] rfl rfl (by decide))) (pmCb (pmn 12 [11, 2, 3, 4, 5, 6, 7, 8, 9, 10, 0, 1] rfl rfl (by decide))) 0 rfl rfl rfl hl.1 rfl rfl (Nat.le_of_ble_eq_true rfl) ⟨rfl, rfl, Nat.le_of_ble_eq_true rfl, Nat.le_of_ble_eq_true rfl, Nat.zero_le _, Nat.zero_le _⟩ dX11_cuts_27 (fun H locs w => ?_)
    refine W.eq (g2 := F0 m 30 ls []) rfl ?_
    refine lv_aload_n hx hb dX11_cuts_30 rfl (lv_at hl 1 rfl) ?_
    refine gf_X11_35 hx hb hown hk w.1 0 rfl rfl dX11_cuts_31 ?_
    refine lv_iload_n hx hb dX11_cuts_34 rfl (lv_at hl 0 rfl) ?_
    refine lv_bipush (v := 6) hx hb dX11_cuts_35 (by decide) ?_
    refine lv_idiv hx hb dX11_cuts_37 (by decide) ?_
    refine lv_iload_n hx hb dX11_cuts_38 rfl (lv_at hl 0 rfl) ?_
    refine lv_bipush (v := 6) hx hb dX11_cuts_39 (by decide) ?_
    refine lv_irem hx hb dX11_cuts_41 (by decide) ?_
    obtain ⟨r_3, e_3, h⟩ := sat_bind h
    refine cMV (rest := []) (wr := ([(a0, .inr (11, [.ref a1, .ref a3, .ref a7, .ref a8, .ref a17, .ref a18, .ref a20, .ref a23, .ref a25, .ref a27])), (a12, .inl (cI, 216, .inl gs)), (a14, .inl (cI, 6, .inl ct)), (a15, .inl (cI, 6, .inl xp)), (a16, .inl (cI, 101, .inl wn)), (a18, .inr (4, [.ref a19, .int r_2.1, .int r_2.2.1])), (a19, .inl (cK, 8, .inr (.inr (.inr (.inr (fun j => some (rga j 0)))))))] ++ rc cI rga r_2.2.2 8)) (ws' := ([(a0, .inr (11, [.ref a1, .ref a3, .ref a7, .ref a8, .ref a17, .ref a18, .ref a20, .ref a23, .ref a25, .ref a27])), (a8, .inr (1, [.ref a9, .ref a11, .ref a12, .ref a13, .ref a14, .ref a15, .ref a16, .int wz, .int tm])), (a9, .inr (3, [.ref a10, .int r_3.1])), (a10, .inl (cI, 36, .inl r_3.2.1)), (a11, .inl (cI, 36, .inl r_3.2.2.1)), (a12, .inl (cI, 216, .inl gs)), (a13, .inl (cI, 216, .inl r_3.2.2.2)), (a14, .inl (cI, 6, .inl ct)), (a15, .inl (cI, 6, .inl xp)), (a16, .inl (cI, 101, .inl wn)), (a18, .inr (4, [.ref a19, .int r_2.1, .int r_2.2.1])), (a19, .inl (cK, 8, .inr (.inr (.inr (.inr (fun j => some (rga j 0)))))))] ++ rc cI rga r_2.2.2 8)) hx hb hml hown hk w hA (k_X1_takeAway l D cI cZ cK N a8 a9 a11 a12 a13 a14 a15 a16 a10 wz tm lt dl hp md (r_1 / 6) (r_1 - r_1 / 6 * 6) r_3 e_3) (me_X1_takeAway hk.2.1) (mi_X1_takeAway hk.2.1) (ml_X11_144 hk.2.1) (pmT (pmn 12 [1, 2, 3, 4, 6, 0, 5, 7, 8, 9, 10, 11] rfl rfl (by decide))) (pmTb (pmn 12 [5, 0, 1, 2, 3, 6, 4, 7, 8, 9, 10, 11] rfl rfl (by decide))) 0 rfl rfl rfl hl.1 rfl rfl (Nat.le_of_ble_eq_true rfl) ⟨rfl, rfl, Nat.le_of_ble_eq_true rfl, Nat.le_of_ble_eq_true rfl, Nat.zero_le _, Nat.zero_le _⟩ dX11_cuts_42 (fun H locs w => ?_)
    refine W.eq (g2 := F0 m 45 ls []) rfl ?_
    refine lv_aload_n hx hb dX11_cuts_45 rfl (lv_at hl 1 rfl) ?_
    refine gf_X11_35 hx hb hown hk w.1 0 rfl rfl dX11_cuts_46 ?_
    refine gf_X11_118 hx hb hown hk w.1 1 rfl rfl dX11_cuts_49 ?_
    refine gf_X11_148 hx hb hown hk w.1 2 rfl rfl dX11_cuts_52 ?_
    have hR := hC0 _ (sat_some h)
    subst hR
    exact hret _ _ _ _ w dX11_cuts_55
  · have h := sat_t c14 h
    refine lv_iconst (v := (-1)) hx hb dX11_cuts_17 (by decide) ?_
    have hR := hC0 _ (sat_some h)
    subst hR
    exact hret _ _ _ _ w dX11_cuts_18
def f_X11_lays (rn : Int32) (dl : ar) (lt : Int32) (hp : ar) (gs : ar) (md : ar) (ct : ar) (xp : ar) (wn : ar) (wz : Int32) (tm : Int32) (rv : Nat → Nat → ar) (la : Int32) (ps : Int32) (x1 : Int32) (x2 : Int32) (x3 : Int32) : Option (Int32 × Int32 × ar × Int32 × Int32 × (Nat → Nat → ar)) := Option.bind (f_X11_areUnlike rn x1 x2) fun r_1 => if (b2i r_1) = 0 then some ((-1), lt, dl, la, ps, rv) else Option.bind (f_X11_isDelay x3) fun r_2 => if (b2i r_2) = 0 then some ((-1), lt, dl, la, ps, rv) else Option.bind (f_X3_delayOf dl x1 x2) fun r_3 => if r_3 ≤ 0 then if lt < 10 then Option.bind (f_X4_push rv la ps dl lt hp gs md ct xp wn wz tm) fun r_4 => Option.bind (f_X3_put dl lt x1 x2 x3) fun r_5 => some (r_5.1, r_5.1, r_5.2, r_4.1, r_4.2.1, r_4.2.2) else some ((-3), lt, dl, la, ps, rv) else some ((-2), lt, dl, la, ps, rv)
abbrev rm_X11_lays : Room := { frames := 4, cells := 0, slots := 0, locals := 81 }
set_option maxRecDepth 100000 in
set_option maxHeartbeats 4000000 in
theorem k_X11_lays (l : Launch) (D : va_G) (cI cZ cK : ClassId) (a0 a1 a3 a7 a8 a17 a18 a20 a23 a25 a27 a9 a11 a12 a13 a14 a15 a16 a10 a19 : Nat) (rga : Nat → Nat → Nat) (rn : Int32) (re : Int32) (rh : Int32) (ra : Int32) (rl : Int32) (rf : Int32) (wz : Int32) (tm : Int32) (lt : Int32) (dl : ar) (hp : ar) (gs : ar) (md : ar) (ct : ar) (xp : ar) (wn : ar) (la : Int32) (ps : Int32) (rv : Nat → Nat → ar) (x1 : Int32) (x2 : Int32) (x3 : Int32) (R : Int32 × Int32 × ar × Int32 × Int32 × (Nat → Nat → ar)) (h : f_X11_lays rn dl lt hp gs md ct xp wn wz tm rv la ps x1 x2 x3 = some R) : Mu l D cI cZ cK yX11_lays cX11_lays 4 (some .int) rm_X11_lays [.ref a0, .int x1, .int x2, .int x3] ([(a0, .inr (11, [.ref a1, .ref a3, .ref a7, .ref a8, .ref a17, .ref a18, .ref a20, .ref a23, .ref a25, .ref a27])), (a7, .inr (7, [.int rn, .int re, .int rh, .int ra, .int rl, .int rf])), (a8, .inr (1, [.ref a9, .ref a11, .ref a12, .ref a13, .ref a14, .ref a15, .ref a16, .int wz, .int tm])), (a9, .inr (3, [.ref a10, .int lt])), (a10, .inl (cI, 36, .inl dl)), (a11, .inl (cI, 36, .inl hp)), (a12, .inl (cI, 216, .inl gs)), (a13, .inl (cI, 216, .inl md)), (a14, .inl (cI, 6, .inl ct)), (a15, .inl (cI, 6, .inl xp)), (a16, .inl (cI, 101, .inl wn)), (a18, .inr (4, [.ref a19, .int la, .int ps])), (a19, .inl (cK, 8, .inr (.inr (.inr (.inr (fun j => some (rga j 0)))))))] ++ rc cI rga rv 8) (some (.int R.1)) ([(a0, .inr (11, [.ref a1, .ref a3, .ref a7, .ref a8, .ref a17, .ref a18, .ref a20, .ref a23, .ref a25, .ref a27])), (a7, .inr (7, [.int rn, .int re, .int rh, .int ra, .int rl, .int rf])), (a8, .inr (1, [.ref a9, .ref a11, .ref a12, .ref a13, .ref a14, .ref a15, .ref a16, .int wz, .int tm])), (a9, .inr (3, [.ref a10, .int R.2.1])), (a10, .inl (cI, 36, .inl R.2.2.1)), (a11, .inl (cI, 36, .inl hp)), (a12, .inl (cI, 216, .inl gs)), (a13, .inl (cI, 216, .inl md)), (a14, .inl (cI, 6, .inl ct)), (a15, .inl (cI, 6, .inl xp)), (a16, .inl (cI, 101, .inl wn)), (a18, .inr (4, [.ref a19, .int R.2.2.2.1, .int R.2.2.2.2.1])), (a19, .inl (cK, 8, .inr (.inr (.inr (.inr (fun j => some (rga j 0)))))))] ++ rc cI rga R.2.2.2.2.2 8) := by
  refine mi_of (by decide) (vp_nar_int _) (Nat.le_of_ble_eq_true rfl) ?_
  intro p e s m args below meth c Q A ls hx hb hml hown hk hA w hret hl
  have hl : lv_has ls 4 [(0, .ref a0), (1, .int x1), (2, .int x2), (3, .int x3)] := hl
  obtain ⟨C0, hC0, h⟩ := sat_top h
  unfold f_X11_lays at h
  refine lv_aload_n hx hb dX11_lays_0 rfl (lv_at hl 0 rfl) ?_
  refine lv_iload_n hx hb dX11_lays_1 rfl (lv_at hl 1 rfl) ?_
  refine lv_iload_n hx hb dX11_lays_2 rfl (lv_at hl 2 rfl) ?_
  obtain ⟨r_1, e_1, h⟩ := sat_bind h
  refine cRV (rest := []) hx hb hml hown hk (k_X11_areUnlike l D cI cZ cK a0 a1 a3 a7 a8 a17 a18 a20 a23 a25 a27 rn re rh ra rl rf x1 x2 r_1 e_1) (me_X11_areUnlike hk.2.1) (mi_X11_areUnlike hk.2.1) (ml_X11_129 hk.2.1) (w.1.sub [0, 1] rfl) 0 rfl rfl rfl hl.1 rfl rfl (Nat.le_of_ble_eq_true rfl) ⟨rfl, rfl, Nat.le_of_ble_eq_true rfl, Nat.le_of_ble_eq_true rfl, Nat.zero_le _, Nat.zero_le _⟩ dX11_lays_3 ?_
  refine lv_if_eq (tgt := 16) hx hb dX11_lays_6 (by decide) (fun c6 => ?_) (fun c6 => ?_)
  · have h := sat_t c6 h
    refine lv_iconst (v := (-1)) hx hb dX11_lays_16 (by decide) ?_
    have hR := hC0 _ (sat_some h)
    subst hR
    exact hret _ _ _ _ w dX11_lays_17
  · have h := sat_f c6 h
    refine lv_iload_n hx hb dX11_lays_9 rfl (lv_at hl 3 rfl) ?_
    obtain ⟨r_2, e_2, h⟩ := sat_bind h
    refine cRS (rest := []) hx hb hml hown hk (k_X11_isDelay l D cI cZ cK x3 r_2 e_2) (me_X11_isDelay hk.2.1) (ms_X11_isDelay hk.2.1) (ml_X11_151 hk.2.1) (w.1.sub [] rfl) hl.1 rfl rfl (Nat.le_of_ble_eq_true rfl) ⟨rfl, rfl, Nat.le_of_ble_eq_true rfl, Nat.le_of_ble_eq_true rfl, Nat.zero_le _, Nat.zero_le _⟩ dX11_lays_10 ?_
    refine lv_if_ne (tgt := 18) hx hb dX11_lays_13 (by decide) (fun c13 => ?_) (fun c13 => ?_)
    · have h := sat_f c13 h
      refine lv_aload_n hx hb dX11_lays_18 rfl (lv_at hl 0 rfl) ?_
      refine gf_X11_35 hx hb hown hk w.1 0 rfl rfl dX11_lays_19 ?_
      refine gf_X11_118 hx hb hown hk w.1 2 rfl rfl dX11_lays_22 ?_
      refine lv_iload_n hx hb dX11_lays_25 rfl (lv_at hl 1 rfl) ?_
      refine lv_iload_n hx hb dX11_lays_26 rfl (lv_at hl 2 rfl) ?_
      obtain ⟨r_3, e_3, h⟩ := sat_bind h
      refine cRV (rest := []) hx hb hml hown hk (k_X3_delayOf l D cI cZ cK a9 a10 lt dl x1 x2 r_3 e_3) (me_X3_delayOf hk.2.1) (mi_X3_delayOf hk.2.1) (ml_X11_154 hk.2.1) (w.1.sub [3, 4] rfl) 0 rfl rfl rfl hl.1 rfl rfl (Nat.le_of_ble_eq_true rfl) ⟨rfl, rfl, Nat.le_of_ble_eq_true rfl, Nat.le_of_ble_eq_true rfl, Nat.zero_le _, Nat.zero_le _⟩ dX11_lays_27 ?_
      refine lv_if_le (tgt := 36) hx hb dX11_lays_30 (by decide) (fun c30 => ?_) (fun c30 => ?_)
      · have h := sat_t c30 h
        refine lv_aload_n hx hb dX11_lays_36 rfl (lv_at hl 0 rfl) ?_
        refine gf_X11_35 hx hb hown hk w.1 0 rfl rfl dX11_lays_37 ?_
        refine gf_X11_118 hx hb hown hk w.1 2 rfl rfl dX11_lays_40 ?_
        refine gf_X11_148 hx hb hown hk w.1 3 rfl rfl dX11_lays_43 ?_
        refine lv_bipush (v := 10) hx hb dX11_lays_46 (by decide) ?_
        refine lv_icmp_lt (tgt := 54) hx hb dX11_lays_48 (by decide) (fun c48 => ?_) (fun c48 => ?_)
        · have h := sat_t c48 h
          refine lv_aload_n hx hb dX11_lays_54 rfl (lv_at hl 0 rfl) ?_
          refine gf_X11_51 hx hb hown hk w.1 0 rfl rfl dX11_lays_55 ?_
          refine lv_aload_n hx hb dX11_lays_58 rfl (lv_at hl 0 rfl) ?_
          refine gf_X11_35 hx hb hown hk w.1 0 rfl rfl dX11_lays_59 ?_
          obtain ⟨r_4, e_4, h⟩ := sat_bind h
          refine cMV (rest := []) (wr := [(a0, .inr (11, [.ref a1, .ref a3, .ref a7, .ref a8, .ref a17, .ref a18, .ref a20, .ref a23, .ref a25, .ref a27])), (a7, .inr (7, [.int rn, .int re, .int rh, .int ra, .int rl, .int rf]))]) (ws' := ([(a0, .inr (11, [.ref a1, .ref a3, .ref a7, .ref a8, .ref a17, .ref a18, .ref a20, .ref a23, .ref a25, .ref a27])), (a7, .inr (7, [.int rn, .int re, .int rh, .int ra, .int rl, .int rf])), (a8, .inr (1, [.ref a9, .ref a11, .ref a12, .ref a13, .ref a14, .ref a15, .ref a16, .int wz, .int tm])), (a9, .inr (3, [.ref a10, .int lt])), (a10, .inl (cI, 36, .inl dl)), (a11, .inl (cI, 36, .inl hp)), (a12, .inl (cI, 216, .inl gs)), (a13, .inl (cI, 216, .inl md)), (a14, .inl (cI, 6, .inl ct)), (a15, .inl (cI, 6, .inl xp)), (a16, .inl (cI, 101, .inl wn)), (a18, .inr (4, [.ref a19, .int r_4.1, .int r_4.2.1])), (a19, .inl (cK, 8, .inr (.inr (.inr (.inr (fun j => some (rga j 0)))))))] ++ rc cI rga r_4.2.2 8)) hx hb hml hown hk w hA (k_X4_push l D cI cZ cK a18 a19 a8 a9 a11 a12 a13 a14 a15 a16 a10 rga la ps wz tm lt dl hp gs md ct xp wn rv r_4 e_4) (me_X4_push hk.2.1) (mi_X4_push hk.2.1) (ml_X11_133 hk.2.1) (pmC (pmn 13 [11, 12, 2, 3, 4, 5, 6, 7, 8, 9, 10, 0, 1] rfl rfl (by decide))) (pmCb (pmn 13 [11, 12, 2, 3, 4, 5, 6, 7, 8, 9, 10, 0, 1] rfl rfl (by decide))) 0 rfl rfl rfl hl.1 rfl rfl (Nat.le_of_ble_eq_true rfl) ⟨rfl, rfl, Nat.le_of_ble_eq_true rfl, Nat.le_of_ble_eq_true rfl, Nat.zero_le _, Nat.zero_le _⟩ dX11_lays_62 (fun H locs w => ?_)
          refine W.eq (g2 := F0 m 65 ls []) rfl ?_
          refine lv_aload_n hx hb dX11_lays_65 rfl (lv_at hl 0 rfl) ?_
          refine gf_X11_35 hx hb hown hk w.1 0 rfl rfl dX11_lays_66 ?_
          refine gf_X11_118 hx hb hown hk w.1 2 rfl rfl dX11_lays_69 ?_
          refine lv_iload_n hx hb dX11_lays_72 rfl (lv_at hl 1 rfl) ?_
          refine lv_iload_n hx hb dX11_lays_73 rfl (lv_at hl 2 rfl) ?_
          refine lv_iload_n hx hb dX11_lays_74 rfl (lv_at hl 3 rfl) ?_
          obtain ⟨r_5, e_5, h⟩ := sat_bind h
          refine cMV (rest := []) (wr := ([(a0, .inr (11, [.ref a1, .ref a3, .ref a7, .ref a8, .ref a17, .ref a18, .ref a20, .ref a23, .ref a25, .ref a27])), (a7, .inr (7, [.int rn, .int re, .int rh, .int ra, .int rl, .int rf])), (a8, .inr (1, [.ref a9, .ref a11, .ref a12, .ref a13, .ref a14, .ref a15, .ref a16, .int wz, .int tm])), (a11, .inl (cI, 36, .inl hp)), (a12, .inl (cI, 216, .inl gs)), (a13, .inl (cI, 216, .inl md)), (a14, .inl (cI, 6, .inl ct)), (a15, .inl (cI, 6, .inl xp)), (a16, .inl (cI, 101, .inl wn)), (a18, .inr (4, [.ref a19, .int r_4.1, .int r_4.2.1])), (a19, .inl (cK, 8, .inr (.inr (.inr (.inr (fun j => some (rga j 0)))))))] ++ rc cI rga r_4.2.2 8)) (ws' := ([(a0, .inr (11, [.ref a1, .ref a3, .ref a7, .ref a8, .ref a17, .ref a18, .ref a20, .ref a23, .ref a25, .ref a27])), (a7, .inr (7, [.int rn, .int re, .int rh, .int ra, .int rl, .int rf])), (a8, .inr (1, [.ref a9, .ref a11, .ref a12, .ref a13, .ref a14, .ref a15, .ref a16, .int wz, .int tm])), (a9, .inr (3, [.ref a10, .int r_5.1])), (a10, .inl (cI, 36, .inl r_5.2)), (a11, .inl (cI, 36, .inl hp)), (a12, .inl (cI, 216, .inl gs)), (a13, .inl (cI, 216, .inl md)), (a14, .inl (cI, 6, .inl ct)), (a15, .inl (cI, 6, .inl xp)), (a16, .inl (cI, 101, .inl wn)), (a18, .inr (4, [.ref a19, .int r_4.1, .int r_4.2.1])), (a19, .inl (cK, 8, .inr (.inr (.inr (.inr (fun j => some (rga j 0)))))))] ++ rc cI rga r_4.2.2 8)) hx hb hml hown hk w hA (k_X3_put l D cI cZ cK a9 a10 lt dl x1 x2 x3 r_5 e_5) (me_X3_put hk.2.1) (mi_X3_put hk.2.1) (ml_X11_157 hk.2.1) (pmT (pmn 13 [3, 4, 0, 1, 2, 5, 6, 7, 8, 9, 10, 11, 12] rfl rfl (by decide))) (pmTb (pmn 13 [2, 3, 4, 0, 1, 5, 6, 7, 8, 9, 10, 11, 12] rfl rfl (by decide))) 0 rfl rfl rfl hl.1 rfl rfl (Nat.le_of_ble_eq_true rfl) ⟨rfl, rfl, Nat.le_of_ble_eq_true rfl, Nat.le_of_ble_eq_true rfl, Nat.zero_le _, Nat.zero_le _⟩ dX11_lays_75 (fun H locs w => ?_)
          refine W.eq (g2 := F0 m 78 ls []) rfl ?_
          refine lv_aload_n hx hb dX11_lays_78 rfl (lv_at hl 0 rfl) ?_
          refine gf_X11_35 hx hb hown hk w.1 0 rfl rfl dX11_lays_79 ?_
          refine gf_X11_118 hx hb hown hk w.1 2 rfl rfl dX11_lays_82 ?_
          refine gf_X11_148 hx hb hown hk w.1 3 rfl rfl dX11_lays_85 ?_
          have hR := hC0 _ (sat_some h)
          subst hR
          exact hret _ _ _ _ w dX11_lays_88
        · have h := sat_f c48 h
          refine lv_bipush (v := (-3)) hx hb dX11_lays_51 (by decide) ?_
          have hR := hC0 _ (sat_some h)
          subst hR
          exact hret _ _ _ _ w dX11_lays_53
      · have h := sat_f c30 h
        refine lv_bipush (v := (-2)) hx hb dX11_lays_33 (by decide) ?_
        have hR := hC0 _ (sat_some h)
        subst hR
        exact hret _ _ _ _ w dX11_lays_35
    · have h := sat_t c13 h
      refine lv_iconst (v := (-1)) hx hb dX11_lays_16 (by decide) ?_
      have hR := hC0 _ (sat_some h)
      subst hR
      exact hret _ _ _ _ w dX11_lays_17
def f_X11_changes (N : Nat) (dl : ar) (lt : Int32) (hp : ar) (gs : ar) (md : ar) (ct : ar) (xp : ar) (wn : ar) (wz : Int32) (tm : Int32) (rv : Nat → Nat → ar) (la : Int32) (ps : Int32) (x1 : Int32) (x2 : Int32) : Option (Int32 × Int32 × ar × Int32 × Int32 × (Nat → Nat → ar)) := Option.bind (f_X3_pairOf N dl lt x1) fun r_1 => if r_1 = (-1) then some ((-1), lt, dl, la, ps, rv) else Option.bind (f_X11_isDelay x2) fun r_2 => if (b2i r_2) = 0 then some ((-1), lt, dl, la, ps, rv) else ck (inb r_1 36) (if (dl r_1.toNatClampNeg) = x2 then some ((-2), lt, dl, la, ps, rv) else Option.bind (f_X4_push rv la ps dl lt hp gs md ct xp wn wz tm) fun r_3 => Option.bind (f_X3_put dl lt (r_1 / 6) (r_1 - r_1 / 6 * 6) x2) fun r_4 => some (dl r_1.toNatClampNeg, r_4.1, r_4.2, r_3.1, r_3.2.1, r_3.2.2))
abbrev rm_X11_changes : Room := { frames := 4, cells := 0, slots := 0, locals := 81 }
set_option maxRecDepth 100000 in
set_option maxHeartbeats 4000000 in
theorem k_X11_changes (l : Launch) (D : va_G) (cI cZ cK : ClassId) (N : Nat) (a0 a1 a3 a7 a8 a17 a18 a20 a23 a25 a27 a9 a11 a12 a13 a14 a15 a16 a10 a19 : Nat) (rga : Nat → Nat → Nat) (wz : Int32) (tm : Int32) (lt : Int32) (dl : ar) (hp : ar) (gs : ar) (md : ar) (ct : ar) (xp : ar) (wn : ar) (la : Int32) (ps : Int32) (rv : Nat → Nat → ar) (x1 : Int32) (x2 : Int32) (R : Int32 × Int32 × ar × Int32 × Int32 × (Nat → Nat → ar)) (h : f_X11_changes N dl lt hp gs md ct xp wn wz tm rv la ps x1 x2 = some R) : Mu l D cI cZ cK yX11_changes cX11_changes 5 (some .int) rm_X11_changes [.ref a0, .int x1, .int x2] ([(a0, .inr (11, [.ref a1, .ref a3, .ref a7, .ref a8, .ref a17, .ref a18, .ref a20, .ref a23, .ref a25, .ref a27])), (a8, .inr (1, [.ref a9, .ref a11, .ref a12, .ref a13, .ref a14, .ref a15, .ref a16, .int wz, .int tm])), (a9, .inr (3, [.ref a10, .int lt])), (a10, .inl (cI, 36, .inl dl)), (a11, .inl (cI, 36, .inl hp)), (a12, .inl (cI, 216, .inl gs)), (a13, .inl (cI, 216, .inl md)), (a14, .inl (cI, 6, .inl ct)), (a15, .inl (cI, 6, .inl xp)), (a16, .inl (cI, 101, .inl wn)), (a18, .inr (4, [.ref a19, .int la, .int ps])), (a19, .inl (cK, 8, .inr (.inr (.inr (.inr (fun j => some (rga j 0)))))))] ++ rc cI rga rv 8) (some (.int R.1)) ([(a0, .inr (11, [.ref a1, .ref a3, .ref a7, .ref a8, .ref a17, .ref a18, .ref a20, .ref a23, .ref a25, .ref a27])), (a8, .inr (1, [.ref a9, .ref a11, .ref a12, .ref a13, .ref a14, .ref a15, .ref a16, .int wz, .int tm])), (a9, .inr (3, [.ref a10, .int R.2.1])), (a10, .inl (cI, 36, .inl R.2.2.1)), (a11, .inl (cI, 36, .inl hp)), (a12, .inl (cI, 216, .inl gs)), (a13, .inl (cI, 216, .inl md)), (a14, .inl (cI, 6, .inl ct)), (a15, .inl (cI, 6, .inl xp)), (a16, .inl (cI, 101, .inl wn)), (a18, .inr (4, [.ref a19, .int R.2.2.2.1, .int R.2.2.2.2.1])), (a19, .inl (cK, 8, .inr (.inr (.inr (.inr (fun j => some (rga j 0)))))))] ++ rc cI rga R.2.2.2.2.2 8) := by
  refine mi_of (by decide) (vp_nar_int _) (Nat.le_of_ble_eq_true rfl) ?_
  intro p e s m args below meth c Q A ls hx hb hml hown hk hA w hret hl
  have hl : lv_has ls 5 [(0, .ref a0), (1, .int x1), (2, .int x2)] := hl
  obtain ⟨C0, hC0, h⟩ := sat_top h
  unfold f_X11_changes at h
  refine lv_aload_n hx hb dX11_changes_0 rfl (lv_at hl 0 rfl) ?_
  refine gf_X11_35 hx hb hown hk w.1 0 rfl rfl dX11_changes_1 ?_
  refine gf_X11_118 hx hb hown hk w.1 1 rfl rfl dX11_changes_4 ?_
  refine lv_iload_n hx hb dX11_changes_7 rfl (lv_at hl 1 rfl) ?_
  obtain ⟨r_1, e_1, h⟩ := sat_bind h
  refine cRV (rest := []) hx hb hml hown hk (k_X3_pairOf l D cI cZ cK N a9 a10 lt dl x1 r_1 e_1) (me_X3_pairOf hk.2.1) (mi_X3_pairOf hk.2.1) (ml_X11_119 hk.2.1) (w.1.sub [2, 3] rfl) 0 rfl rfl rfl hl.1 rfl rfl (Nat.le_of_ble_eq_true rfl) ⟨rfl, rfl, Nat.le_of_ble_eq_true rfl, Nat.le_of_ble_eq_true rfl, Nat.zero_le _, Nat.zero_le _⟩ dX11_changes_8 ?_
  refine lv_istore_n (lv' := [(3, .int r_1), (0, .ref a0), (1, .int x1), (2, .int x2)]) hx hb dX11_changes_11 rfl hl (by decide) rfl (fun ls hl => ?_)
  refine lv_iload_n hx hb dX11_changes_12 rfl (lv_at hl 0 rfl) ?_
  refine lv_iconst (v := (-1)) hx hb dX11_changes_13 (by decide) ?_
  refine lv_icmp_eq (tgt := 24) hx hb dX11_changes_14 (by decide) (fun c14 => ?_) (fun c14 => ?_)
  · have h := sat_t c14 h
    refine lv_iconst (v := (-1)) hx hb dX11_changes_24 (by decide) ?_
    have hR := hC0 _ (sat_some h)
    subst hR
    exact hret _ _ _ _ w dX11_changes_25
  · have h := sat_f c14 h
    refine lv_iload_n hx hb dX11_changes_17 rfl (lv_at hl 3 rfl) ?_
    obtain ⟨r_2, e_2, h⟩ := sat_bind h
    refine cRS (rest := []) hx hb hml hown hk (k_X11_isDelay l D cI cZ cK x2 r_2 e_2) (me_X11_isDelay hk.2.1) (ms_X11_isDelay hk.2.1) (ml_X11_151 hk.2.1) (w.1.sub [] rfl) hl.1 rfl rfl (Nat.le_of_ble_eq_true rfl) ⟨rfl, rfl, Nat.le_of_ble_eq_true rfl, Nat.le_of_ble_eq_true rfl, Nat.zero_le _, Nat.zero_le _⟩ dX11_changes_18 ?_
    refine lv_if_ne (tgt := 26) hx hb dX11_changes_21 (by decide) (fun c21 => ?_) (fun c21 => ?_)
    · have h := sat_f c21 h
      refine lv_aload_n hx hb dX11_changes_26 rfl (lv_at hl 1 rfl) ?_
      refine gf_X11_35 hx hb hown hk w.1 0 rfl rfl dX11_changes_27 ?_
      refine gf_X11_118 hx hb hown hk w.1 1 rfl rfl dX11_changes_30 ?_
      refine gf_X11_125 hx hb hown hk w.1 2 rfl rfl dX11_changes_33 ?_
      refine lv_iload_n hx hb dX11_changes_36 rfl (lv_at hl 0 rfl) ?_
      obtain ⟨hi, h⟩ := sat_in h
      refine va_iald hx hb hk.1 w.1 3 0 rfl rfl hi dX11_changes_37 ?_
      refine lv_istore (lv' := [(4, .int (dl r_1.toNatClampNeg)), (3, .int r_1), (0, .ref a0), (1, .int x1), (2, .int x2)]) hx hb dX11_changes_38 hl (by decide) rfl (fun ls hl => ?_)
      refine lv_iload hx hb dX11_changes_40 (lv_at hl 0 rfl) ?_
      refine lv_iload_n hx hb dX11_changes_42 rfl (lv_at hl 4 rfl) ?_
      refine lv_icmp_ne (tgt := 49) hx hb dX11_changes_43 (by decide) (fun c43 => ?_) (fun c43 => ?_)
      · have h := sat_f c43 h
        refine lv_aload_n hx hb dX11_changes_49 rfl (lv_at hl 2 rfl) ?_
        refine gf_X11_51 hx hb hown hk w.1 0 rfl rfl dX11_changes_50 ?_
        refine lv_aload_n hx hb dX11_changes_53 rfl (lv_at hl 2 rfl) ?_
        refine gf_X11_35 hx hb hown hk w.1 0 rfl rfl dX11_changes_54 ?_
        obtain ⟨r_3, e_3, h⟩ := sat_bind h
        refine cMV (rest := []) (wr := [(a0, .inr (11, [.ref a1, .ref a3, .ref a7, .ref a8, .ref a17, .ref a18, .ref a20, .ref a23, .ref a25, .ref a27]))]) (ws' := ([(a0, .inr (11, [.ref a1, .ref a3, .ref a7, .ref a8, .ref a17, .ref a18, .ref a20, .ref a23, .ref a25, .ref a27])), (a8, .inr (1, [.ref a9, .ref a11, .ref a12, .ref a13, .ref a14, .ref a15, .ref a16, .int wz, .int tm])), (a9, .inr (3, [.ref a10, .int lt])), (a10, .inl (cI, 36, .inl dl)), (a11, .inl (cI, 36, .inl hp)), (a12, .inl (cI, 216, .inl gs)), (a13, .inl (cI, 216, .inl md)), (a14, .inl (cI, 6, .inl ct)), (a15, .inl (cI, 6, .inl xp)), (a16, .inl (cI, 101, .inl wn)), (a18, .inr (4, [.ref a19, .int r_3.1, .int r_3.2.1])), (a19, .inl (cK, 8, .inr (.inr (.inr (.inr (fun j => some (rga j 0)))))))] ++ rc cI rga r_3.2.2 8)) hx hb hml hown hk w hA (k_X4_push l D cI cZ cK a18 a19 a8 a9 a11 a12 a13 a14 a15 a16 a10 rga la ps wz tm lt dl hp gs md ct xp wn rv r_3 e_3) (me_X4_push hk.2.1) (mi_X4_push hk.2.1) (ml_X11_133 hk.2.1) (pmC (pmn 12 [10, 11, 1, 2, 3, 4, 5, 6, 7, 8, 9, 0] rfl rfl (by decide))) (pmCb (pmn 12 [11, 2, 3, 4, 5, 6, 7, 8, 9, 10, 0, 1] rfl rfl (by decide))) 0 rfl rfl rfl hl.1 rfl rfl (Nat.le_of_ble_eq_true rfl) ⟨rfl, rfl, Nat.le_of_ble_eq_true rfl, Nat.le_of_ble_eq_true rfl, Nat.zero_le _, Nat.zero_le _⟩ dX11_changes_57 (fun H locs w => ?_)
        refine W.eq (g2 := F0 m 60 ls []) rfl ?_
        refine lv_aload_n hx hb dX11_changes_60 rfl (lv_at hl 2 rfl) ?_
        refine gf_X11_35 hx hb hown hk w.1 0 rfl rfl dX11_changes_61 ?_
        refine gf_X11_118 hx hb hown hk w.1 1 rfl rfl dX11_changes_64 ?_
        refine lv_iload_n hx hb dX11_changes_67 rfl (lv_at hl 1 rfl) ?_
        refine lv_bipush (v := 6) hx hb dX11_changes_68 (by decide) ?_
        refine lv_idiv hx hb dX11_changes_70 (by decide) ?_
        refine lv_iload_n hx hb dX11_changes_71 rfl (lv_at hl 1 rfl) ?_
        refine lv_bipush (v := 6) hx hb dX11_changes_72 (by decide) ?_
        refine lv_irem hx hb dX11_changes_74 (by decide) ?_
        refine lv_iload_n hx hb dX11_changes_75 rfl (lv_at hl 4 rfl) ?_
        obtain ⟨r_4, e_4, h⟩ := sat_bind h
        refine cMV (rest := []) (wr := ([(a0, .inr (11, [.ref a1, .ref a3, .ref a7, .ref a8, .ref a17, .ref a18, .ref a20, .ref a23, .ref a25, .ref a27])), (a8, .inr (1, [.ref a9, .ref a11, .ref a12, .ref a13, .ref a14, .ref a15, .ref a16, .int wz, .int tm])), (a11, .inl (cI, 36, .inl hp)), (a12, .inl (cI, 216, .inl gs)), (a13, .inl (cI, 216, .inl md)), (a14, .inl (cI, 6, .inl ct)), (a15, .inl (cI, 6, .inl xp)), (a16, .inl (cI, 101, .inl wn)), (a18, .inr (4, [.ref a19, .int r_3.1, .int r_3.2.1])), (a19, .inl (cK, 8, .inr (.inr (.inr (.inr (fun j => some (rga j 0)))))))] ++ rc cI rga r_3.2.2 8)) (ws' := ([(a0, .inr (11, [.ref a1, .ref a3, .ref a7, .ref a8, .ref a17, .ref a18, .ref a20, .ref a23, .ref a25, .ref a27])), (a8, .inr (1, [.ref a9, .ref a11, .ref a12, .ref a13, .ref a14, .ref a15, .ref a16, .int wz, .int tm])), (a9, .inr (3, [.ref a10, .int r_4.1])), (a10, .inl (cI, 36, .inl r_4.2)), (a11, .inl (cI, 36, .inl hp)), (a12, .inl (cI, 216, .inl gs)), (a13, .inl (cI, 216, .inl md)), (a14, .inl (cI, 6, .inl ct)), (a15, .inl (cI, 6, .inl xp)), (a16, .inl (cI, 101, .inl wn)), (a18, .inr (4, [.ref a19, .int r_3.1, .int r_3.2.1])), (a19, .inl (cK, 8, .inr (.inr (.inr (.inr (fun j => some (rga j 0)))))))] ++ rc cI rga r_3.2.2 8)) hx hb hml hown hk w hA (k_X3_put l D cI cZ cK a9 a10 lt dl (r_1 / 6) (r_1 - r_1 / 6 * 6) x2 r_4 e_4) (me_X3_put hk.2.1) (mi_X3_put hk.2.1) (ml_X11_157 hk.2.1) (pmT (pmn 12 [2, 3, 0, 1, 4, 5, 6, 7, 8, 9, 10, 11] rfl rfl (by decide))) (pmTb (pmn 12 [2, 3, 0, 1, 4, 5, 6, 7, 8, 9, 10, 11] rfl rfl (by decide))) 0 rfl rfl rfl hl.1 rfl rfl (Nat.le_of_ble_eq_true rfl) ⟨rfl, rfl, Nat.le_of_ble_eq_true rfl, Nat.le_of_ble_eq_true rfl, Nat.zero_le _, Nat.zero_le _⟩ dX11_changes_76 (fun H locs w => ?_)
        refine W.eq (g2 := F0 m 79 ls []) rfl ?_
        refine lv_iload hx hb dX11_changes_79 (lv_at hl 0 rfl) ?_
        have hR := hC0 _ (sat_some h)
        subst hR
        exact hret _ _ _ _ w dX11_changes_81
      · have h := sat_t c43 h
        refine lv_bipush (v := (-2)) hx hb dX11_changes_46 (by decide) ?_
        have hR := hC0 _ (sat_some h)
        subst hR
        exact hret _ _ _ _ w dX11_changes_48
    · have h := sat_t c21 h
      refine lv_iconst (v := (-1)) hx hb dX11_changes_24 (by decide) ?_
      have hR := hC0 _ (sat_some h)
      subst hR
      exact hret _ _ _ _ w dX11_changes_25
def f_X11_undo (dl : ar) (lt : Int32) (hp : ar) (gs : ar) (md : ar) (ct : ar) (xp : ar) (wn : ar) (wz : Int32) (tm : Int32) (rv : Nat → Nat → ar) (la : Int32) (ps : Int32) : Option (Int32 × Int32 × Int32 × Int32 × ar × ar × ar × ar × ar × ar × ar × Int32 × Int32) := Option.bind (f_X4_pop rv la ps dl lt hp gs md ct xp wn wz tm) fun r_1 => if (b2i r_1.1) = 0 then some ((-2), r_1.2.2.2.1, r_1.2.2.2.2.1, r_1.2.2.2.2.2.1, r_1.2.2.2.2.2.2.1, r_1.2.2.2.2.2.2.2.1, r_1.2.2.2.2.2.2.2.2.1, r_1.2.2.2.2.2.2.2.2.2.1, r_1.2.2.2.2.2.2.2.2.2.2.1, r_1.2.2.2.2.2.2.2.2.2.2.2.1, r_1.2.2.2.2.2.2.2.2.2.2.2.2, r_1.2.1, r_1.2.2.1) else some (r_1.2.2.1, r_1.2.2.2.1, r_1.2.2.2.2.1, r_1.2.2.2.2.2.1, r_1.2.2.2.2.2.2.1, r_1.2.2.2.2.2.2.2.1, r_1.2.2.2.2.2.2.2.2.1, r_1.2.2.2.2.2.2.2.2.2.1, r_1.2.2.2.2.2.2.2.2.2.2.1, r_1.2.2.2.2.2.2.2.2.2.2.2.1, r_1.2.2.2.2.2.2.2.2.2.2.2.2, r_1.2.1, r_1.2.2.1)
abbrev rm_X11_undo : Room := { frames := 4, cells := 0, slots := 0, locals := 81 }
set_option maxRecDepth 100000 in
set_option maxHeartbeats 4000000 in
theorem k_X11_undo (l : Launch) (D : va_G) (cI cZ cK : ClassId) (a0 a1 a3 a7 a8 a17 a18 a20 a23 a25 a27 a9 a11 a12 a13 a14 a15 a16 a10 a19 : Nat) (rga : Nat → Nat → Nat) (wz : Int32) (tm : Int32) (lt : Int32) (dl : ar) (hp : ar) (gs : ar) (md : ar) (ct : ar) (xp : ar) (wn : ar) (la : Int32) (ps : Int32) (rv : Nat → Nat → ar) (R : Int32 × Int32 × Int32 × Int32 × ar × ar × ar × ar × ar × ar × ar × Int32 × Int32) (h : f_X11_undo dl lt hp gs md ct xp wn wz tm rv la ps = some R) : Mu l D cI cZ cK yX11_undo cX11_undo 1 (some .int) rm_X11_undo [.ref a0] ([(a0, .inr (11, [.ref a1, .ref a3, .ref a7, .ref a8, .ref a17, .ref a18, .ref a20, .ref a23, .ref a25, .ref a27])), (a8, .inr (1, [.ref a9, .ref a11, .ref a12, .ref a13, .ref a14, .ref a15, .ref a16, .int wz, .int tm])), (a9, .inr (3, [.ref a10, .int lt])), (a10, .inl (cI, 36, .inl dl)), (a11, .inl (cI, 36, .inl hp)), (a12, .inl (cI, 216, .inl gs)), (a13, .inl (cI, 216, .inl md)), (a14, .inl (cI, 6, .inl ct)), (a15, .inl (cI, 6, .inl xp)), (a16, .inl (cI, 101, .inl wn)), (a18, .inr (4, [.ref a19, .int la, .int ps])), (a19, .inl (cK, 8, .inr (.inr (.inr (.inr (fun j => some (rga j 0)))))))] ++ rc cI rga rv 8) (some (.int R.1)) ([(a0, .inr (11, [.ref a1, .ref a3, .ref a7, .ref a8, .ref a17, .ref a18, .ref a20, .ref a23, .ref a25, .ref a27])), (a8, .inr (1, [.ref a9, .ref a11, .ref a12, .ref a13, .ref a14, .ref a15, .ref a16, .int R.2.1, .int R.2.2.1])), (a9, .inr (3, [.ref a10, .int R.2.2.2.1])), (a10, .inl (cI, 36, .inl R.2.2.2.2.1)), (a11, .inl (cI, 36, .inl R.2.2.2.2.2.1)), (a12, .inl (cI, 216, .inl R.2.2.2.2.2.2.1)), (a13, .inl (cI, 216, .inl R.2.2.2.2.2.2.2.1)), (a14, .inl (cI, 6, .inl R.2.2.2.2.2.2.2.2.1)), (a15, .inl (cI, 6, .inl R.2.2.2.2.2.2.2.2.2.1)), (a16, .inl (cI, 101, .inl R.2.2.2.2.2.2.2.2.2.2.1)), (a18, .inr (4, [.ref a19, .int R.2.2.2.2.2.2.2.2.2.2.2.1, .int R.2.2.2.2.2.2.2.2.2.2.2.2])), (a19, .inl (cK, 8, .inr (.inr (.inr (.inr (fun j => some (rga j 0)))))))] ++ rc cI rga rv 8) := by
  refine mi_of (by decide) (vp_nar_int _) (Nat.le_of_ble_eq_true rfl) ?_
  intro p e s m args below meth c Q A ls hx hb hml hown hk hA w hret hl
  have hl : lv_has ls 1 [(0, .ref a0)] := hl
  obtain ⟨C0, hC0, h⟩ := sat_top h
  unfold f_X11_undo at h
  refine lv_aload_n hx hb dX11_undo_0 rfl (lv_at hl 0 rfl) ?_
  refine gf_X11_51 hx hb hown hk w.1 0 rfl rfl dX11_undo_1 ?_
  refine lv_aload_n hx hb dX11_undo_4 rfl (lv_at hl 0 rfl) ?_
  refine gf_X11_35 hx hb hown hk w.1 0 rfl rfl dX11_undo_5 ?_
  obtain ⟨r_1, e_1, h⟩ := sat_bind h
  refine cMV (rest := []) (wr := [(a0, .inr (11, [.ref a1, .ref a3, .ref a7, .ref a8, .ref a17, .ref a18, .ref a20, .ref a23, .ref a25, .ref a27]))]) (ws' := ([(a0, .inr (11, [.ref a1, .ref a3, .ref a7, .ref a8, .ref a17, .ref a18, .ref a20, .ref a23, .ref a25, .ref a27])), (a8, .inr (1, [.ref a9, .ref a11, .ref a12, .ref a13, .ref a14, .ref a15, .ref a16, .int r_1.2.2.2.1, .int r_1.2.2.2.2.1])), (a9, .inr (3, [.ref a10, .int r_1.2.2.2.2.2.1])), (a10, .inl (cI, 36, .inl r_1.2.2.2.2.2.2.1)), (a11, .inl (cI, 36, .inl r_1.2.2.2.2.2.2.2.1)), (a12, .inl (cI, 216, .inl r_1.2.2.2.2.2.2.2.2.1)), (a13, .inl (cI, 216, .inl r_1.2.2.2.2.2.2.2.2.2.1)), (a14, .inl (cI, 6, .inl r_1.2.2.2.2.2.2.2.2.2.2.1)), (a15, .inl (cI, 6, .inl r_1.2.2.2.2.2.2.2.2.2.2.2.1)), (a16, .inl (cI, 101, .inl r_1.2.2.2.2.2.2.2.2.2.2.2.2)), (a18, .inr (4, [.ref a19, .int r_1.2.1, .int r_1.2.2.1])), (a19, .inl (cK, 8, .inr (.inr (.inr (.inr (fun j => some (rga j 0)))))))] ++ rc cI rga rv 8)) hx hb hml hown hk w hA (k_X4_pop l D cI cZ cK a18 a19 a8 a9 a11 a12 a13 a14 a15 a16 a10 rga la ps wz tm lt dl hp gs md ct xp wn rv r_1 e_1) (me_X4_pop hk.2.1) (mi_X4_pop hk.2.1) (ml_X11_161 hk.2.1) (pmC (pmn 12 [10, 11, 1, 2, 3, 4, 5, 6, 7, 8, 9, 0] rfl rfl (by decide))) (pmCb (pmn 12 [11, 2, 3, 4, 5, 6, 7, 8, 9, 10, 0, 1] rfl rfl (by decide))) 0 rfl rfl rfl hl.1 rfl rfl (Nat.le_of_ble_eq_true rfl) ⟨rfl, rfl, Nat.le_of_ble_eq_true rfl, Nat.le_of_ble_eq_true rfl, Nat.zero_le _, Nat.zero_le _⟩ dX11_undo_8 (fun H locs w => ?_)
  refine W.eq (g2 := F0 m 11 ls [.int (b2i r_1.1)]) rfl ?_
  refine lv_if_eq (tgt := 24) hx hb dX11_undo_11 (by decide) (fun c11 => ?_) (fun c11 => ?_)
  · have h := sat_t c11 h
    refine lv_bipush (v := (-2)) hx hb dX11_undo_24 (by decide) ?_
    have hR := hC0 _ (sat_some h)
    subst hR
    exact hret _ _ _ _ w dX11_undo_26
  · have h := sat_f c11 h
    refine lv_aload_n hx hb dX11_undo_14 rfl (lv_at hl 0 rfl) ?_
    refine gf_X11_51 hx hb hown hk w.1 0 rfl rfl dX11_undo_15 ?_
    refine gf_X11_110 hx hb hown hk w.1 10 rfl rfl dX11_undo_18 ?_
    refine lv_goto (tgt := 26) hx hb dX11_undo_21 (by decide) ?_
    have hR := hC0 _ (sat_some h)
    subst hR
    exact hret _ _ _ _ w dX11_undo_26
