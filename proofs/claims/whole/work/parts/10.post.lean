def f_X5_guessAt (ra : Int32) (rf : Int32) (gs : ar) (md : ar) (tm : Int32) (x1 : Int32) : Option (Int32) := ck (inb x1 216) (if (md x1.toNatClampNeg) = 0 then some (64 * rf) else if (tm - (md x1.toNatClampNeg)) ≤ ra then ck (inb x1 216) (some (gs x1.toNatClampNeg)) else some (64 * rf))
abbrev rm_X5_guessAt : Room := { frames := 0, cells := 0, slots := 0, locals := 0 }
set_option maxRecDepth 100000 in
set_option maxHeartbeats 4000000 in
theorem k_X5_guessAt (l : Launch) (D : va_G) (cI cZ cK : ClassId) (a0 a1 a2 a3 a5 a6 a7 a8 a9 a10 : Nat) (rn : Int32) (re : Int32) (rh : Int32) (ra : Int32) (rl : Int32) (rf : Int32) (wz : Int32) (tm : Int32) (gs : ar) (md : ar) (x1 : Int32) (R : Int32) (h : f_X5_guessAt ra rf gs md tm x1 = some R) : Rd l D cI cZ cK yX5_guessAt cX5_guessAt 3 (some .int) rm_X5_guessAt [.ref a0, .int x1] [(a0, .inr (5, [.ref a1, .ref a2])), (a1, .inr (7, [.int rn, .int re, .int rh, .int ra, .int rl, .int rf])), (a2, .inr (1, [.ref a3, .ref a5, .ref a6, .ref a7, .ref a8, .ref a9, .ref a10, .int wz, .int tm])), (a6, .inl (cI, 216, .inl gs)), (a7, .inl (cI, 216, .inl md))] R := by
  refine rd_of (by decide) (vp_nar_int _) (Nat.le_of_ble_eq_true rfl) ?_
  intro p e s m args below meth c Q ls hx hb hml hown hk hP hret hl
  have hl : lv_has ls 3 [(0, .ref a0), (1, .int x1)] := hl
  obtain ⟨C0, hC0, h⟩ := sat_top h
  unfold f_X5_guessAt at h
  refine lv_aload_n hx hb dX5_guessAt_0 rfl (lv_at hl 0 rfl) ?_
  refine gf_X5_15 hx hb hown hk hP 0 rfl rfl dX5_guessAt_1 ?_
  refine gf_X5_27 hx hb hown hk hP 2 rfl rfl dX5_guessAt_4 ?_
  refine lv_iload_n hx hb dX5_guessAt_7 rfl (lv_at hl 1 rfl) ?_
  obtain ⟨hi, h⟩ := sat_in h
  refine va_iald hx hb hk.1 hP 4 0 rfl rfl hi dX5_guessAt_8 ?_
  refine lv_istore_n (lv' := [(2, .int (md x1.toNatClampNeg)), (0, .ref a0), (1, .int x1)]) hx hb dX5_guessAt_9 rfl hl (by decide) rfl (fun ls hl => ?_)
  refine lv_iload_n hx hb dX5_guessAt_10 rfl (lv_at hl 0 rfl) ?_
  refine lv_if_eq (tgt := 33) hx hb dX5_guessAt_11 (by decide) (fun c11 => ?_) (fun c11 => ?_)
  · have h := sat_t c11 h
    refine lv_bipush (v := 64) hx hb dX5_guessAt_33 (by decide) ?_
    refine lv_aload_n hx hb dX5_guessAt_35 rfl (lv_at hl 1 rfl) ?_
    refine gf_X5_9 hx hb hown hk hP 0 rfl rfl dX5_guessAt_36 ?_
    refine gf_X5_42 hx hb hown hk hP 1 rfl rfl dX5_guessAt_39 ?_
    refine lv_imul hx hb dX5_guessAt_42 ?_
    have hR := hC0 _ (sat_some h)
    subst hR
    exact hret _ _ dX5_guessAt_43
  · have h := sat_f c11 h
    refine lv_aload_n hx hb dX5_guessAt_14 rfl (lv_at hl 1 rfl) ?_
    refine gf_X5_15 hx hb hown hk hP 0 rfl rfl dX5_guessAt_15 ?_
    refine gf_X5_33 hx hb hown hk hP 2 rfl rfl dX5_guessAt_18 ?_
    refine lv_iload_n hx hb dX5_guessAt_21 rfl (lv_at hl 0 rfl) ?_
    refine lv_isub hx hb dX5_guessAt_22 ?_
    refine lv_aload_n hx hb dX5_guessAt_23 rfl (lv_at hl 1 rfl) ?_
    refine gf_X5_9 hx hb hown hk hP 0 rfl rfl dX5_guessAt_24 ?_
    refine gf_X5_37 hx hb hown hk hP 1 rfl rfl dX5_guessAt_27 ?_
    refine lv_icmp_le (tgt := 44) hx hb dX5_guessAt_30 (by decide) (fun c30 => ?_) (fun c30 => ?_)
    · have h := sat_t c30 h
      refine lv_aload_n hx hb dX5_guessAt_44 rfl (lv_at hl 1 rfl) ?_
      refine gf_X5_15 hx hb hown hk hP 0 rfl rfl dX5_guessAt_45 ?_
      refine gf_X5_45 hx hb hown hk hP 2 rfl rfl dX5_guessAt_48 ?_
      refine lv_iload_n hx hb dX5_guessAt_51 rfl (lv_at hl 2 rfl) ?_
      obtain ⟨hi, h⟩ := sat_in h
      refine va_iald hx hb hk.1 hP 3 0 rfl rfl hi dX5_guessAt_52 ?_
      have hR := hC0 _ (sat_some h)
      subst hR
      exact hret _ _ dX5_guessAt_53
    · have h := sat_f c30 h
      refine lv_bipush (v := 64) hx hb dX5_guessAt_33 (by decide) ?_
      refine lv_aload_n hx hb dX5_guessAt_35 rfl (lv_at hl 1 rfl) ?_
      refine gf_X5_9 hx hb hown hk hP 0 rfl rfl dX5_guessAt_36 ?_
      refine gf_X5_42 hx hb hown hk hP 1 rfl rfl dX5_guessAt_39 ?_
      refine lv_imul hx hb dX5_guessAt_42 ?_
      have hR := hC0 _ (sat_some h)
      subst hR
      exact hret _ _ dX5_guessAt_43
def f_X5_guessBy (ra : Int32) (rf : Int32) (gs : ar) (md : ar) (tm : Int32) (x1 : Int32) (x2 : Int32) (x3 : Int32) : Option (Int32) := Option.bind (f_X11_guessCell x1 x2 x3) fun r_1 => Option.bind (f_X5_guessAt ra rf gs md tm r_1) fun r_2 => some r_2
abbrev rm_X5_guessBy : Room := { frames := 1, cells := 0, slots := 0, locals := 22 }
set_option maxRecDepth 100000 in
set_option maxHeartbeats 4000000 in
theorem k_X5_guessBy (l : Launch) (D : va_G) (cI cZ cK : ClassId) (a0 a1 a2 a3 a5 a6 a7 a8 a9 a10 : Nat) (rn : Int32) (re : Int32) (rh : Int32) (ra : Int32) (rl : Int32) (rf : Int32) (wz : Int32) (tm : Int32) (gs : ar) (md : ar) (x1 : Int32) (x2 : Int32) (x3 : Int32) (R : Int32) (h : f_X5_guessBy ra rf gs md tm x1 x2 x3 = some R) : Rd l D cI cZ cK yX5_guessBy cX5_guessBy 4 (some .int) rm_X5_guessBy [.ref a0, .int x1, .int x2, .int x3] [(a0, .inr (5, [.ref a1, .ref a2])), (a1, .inr (7, [.int rn, .int re, .int rh, .int ra, .int rl, .int rf])), (a2, .inr (1, [.ref a3, .ref a5, .ref a6, .ref a7, .ref a8, .ref a9, .ref a10, .int wz, .int tm])), (a6, .inl (cI, 216, .inl gs)), (a7, .inl (cI, 216, .inl md))] R := by
  refine rd_of (by decide) (vp_nar_int _) (Nat.le_of_ble_eq_true rfl) ?_
  intro p e s m args below meth c Q ls hx hb hml hown hk hP hret hl
  have hl : lv_has ls 4 [(0, .ref a0), (1, .int x1), (2, .int x2), (3, .int x3)] := hl
  obtain ⟨C0, hC0, h⟩ := sat_top h
  unfold f_X5_guessBy at h
  refine lv_aload_n hx hb dX5_guessBy_0 rfl (lv_at hl 0 rfl) ?_
  refine lv_iload_n hx hb dX5_guessBy_1 rfl (lv_at hl 1 rfl) ?_
  refine lv_iload_n hx hb dX5_guessBy_2 rfl (lv_at hl 2 rfl) ?_
  refine lv_iload_n hx hb dX5_guessBy_3 rfl (lv_at hl 3 rfl) ?_
  obtain ⟨r_1, e_1, h⟩ := sat_bind h
  refine cRN (rest := [.ref a0]) hx hb hml hown hk (k_X11_guessCell l D cI cZ cK x1 x2 x3 r_1 e_1) (me_X11_guessCell hk.2.1) (ms_X11_guessCell hk.2.1) (hk.2.2.1 (RX5, 19, yX11_guessCell) (List.mem_of_getElem? (i := 11) rfl)) (hP.sub [] rfl) hl.1 rfl rfl (Nat.le_of_ble_eq_true rfl) ⟨rfl, rfl, Nat.le_of_ble_eq_true rfl, Nat.le_of_ble_eq_true rfl, Nat.zero_le _, Nat.zero_le _⟩ dX5_guessBy_4 ?_
  obtain ⟨r_2, e_2, h⟩ := sat_bind h
  refine cRV (rest := []) hx hb hml hown hk (k_X5_guessAt l D cI cZ cK a0 a1 a2 a3 a5 a6 a7 a8 a9 a10 rn re rh ra rl rf wz tm gs md r_1 r_2 e_2) (me_X5_guessAt hk.2.1) (mi_X5_guessAt hk.2.1) (ml_X5_23 hk.2.1) (hP.sub [0, 1, 2, 3, 4] rfl) 0 rfl rfl rfl hl.1 rfl rfl (Nat.le_of_ble_eq_true rfl) ⟨rfl, rfl, Nat.le_of_ble_eq_true rfl, Nat.le_of_ble_eq_true rfl, Nat.zero_le _, Nat.zero_le _⟩ dX5_guessBy_7 ?_
  have hR := hC0 _ (sat_some h)
  subst hR
  exact hret _ _ dX5_guessBy_10
def f_X5_bestOf_L24 (rn : Int32) (ra : Int32) (rf : Int32) (dl : ar) (gs : ar) (md : ar) (tm : Int32) (r_1 : Int32) (r_2 : Int32) : Nat → Int32 → Int32 → Int32 → Option (Int32)
  | 0, _, _, _ => none
  | n + 1, x5_24, x6_24, x7_24 => if rn ≤ x7_24 then some x5_24 else ck (inb (r_1 + x7_24) 36) (if (dl (r_1 + x7_24).toNatClampNeg) ≤ 0 then f_X5_bestOf_L24 rn ra rf dl gs md tm r_1 r_2 n x5_24 x6_24 (x7_24 + 1) else Option.bind (f_X5_guessAt ra rf gs md tm (r_2 + x7_24)) fun r_3 => if x5_24 = (-9) then f_X5_bestOf_L24 rn ra rf dl gs md tm r_1 r_2 n x7_24 r_3 (x7_24 + 1) else if x6_24 ≤ r_3 then f_X5_bestOf_L24 rn ra rf dl gs md tm r_1 r_2 n x5_24 x6_24 (x7_24 + 1) else f_X5_bestOf_L24 rn ra rf dl gs md tm r_1 r_2 n x7_24 r_3 (x7_24 + 1))
def f_X5_bestOf (N : Nat) (rn : Int32) (ra : Int32) (rf : Int32) (dl : ar) (gs : ar) (md : ar) (tm : Int32) (x1 : Int32) (x2 : Int32) : Option (Int32) := Option.bind (f_X11_pairCell x1 0) fun r_1 => Option.bind (f_X11_guessCell x1 x2 0) fun r_2 => Option.bind (f_X5_bestOf_L24 rn ra rf dl gs md tm r_1 r_2 N (-9) 0 0) fun s24 => some s24
abbrev rm_X5_bestOf : Room := { frames := 1, cells := 0, slots := 0, locals := 22 }
set_option maxRecDepth 100000 in
set_option maxHeartbeats 4000000 in
theorem k_X5_bestOf (l : Launch) (D : va_G) (cI cZ cK : ClassId) (N : Nat) (a0 a1 a2 a3 a5 a6 a7 a8 a9 a10 a4 : Nat) (rn : Int32) (re : Int32) (rh : Int32) (ra : Int32) (rl : Int32) (rf : Int32) (wz : Int32) (tm : Int32) (lt : Int32) (dl : ar) (gs : ar) (md : ar) (x1 : Int32) (x2 : Int32) (R : Int32) (h : f_X5_bestOf N rn ra rf dl gs md tm x1 x2 = some R) : Rd l D cI cZ cK yX5_bestOf cX5_bestOf 9 (some .int) rm_X5_bestOf [.ref a0, .int x1, .int x2] [(a0, .inr (5, [.ref a1, .ref a2])), (a1, .inr (7, [.int rn, .int re, .int rh, .int ra, .int rl, .int rf])), (a2, .inr (1, [.ref a3, .ref a5, .ref a6, .ref a7, .ref a8, .ref a9, .ref a10, .int wz, .int tm])), (a3, .inr (3, [.ref a4, .int lt])), (a4, .inl (cI, 36, .inl dl)), (a6, .inl (cI, 216, .inl gs)), (a7, .inl (cI, 216, .inl md))] R := by
  refine rd_of (by decide) (vp_nar_int _) (Nat.le_of_ble_eq_true rfl) ?_
  intro p e s m args below meth c Q ls hx hb hml hown hk hP hret hl
  have hl : lv_has ls 9 [(0, .ref a0), (1, .int x1), (2, .int x2)] := hl
  obtain ⟨C0, hC0, h⟩ := sat_top h
  unfold f_X5_bestOf at h
  refine lv_iload_n hx hb dX5_bestOf_0 rfl (lv_at hl 1 rfl) ?_
  refine lv_iconst (v := 0) hx hb dX5_bestOf_1 (by decide) ?_
  obtain ⟨r_1, e_1, h⟩ := sat_bind h
  refine cRN (rest := []) hx hb hml hown hk (k_X11_pairCell l D cI cZ cK x1 0 r_1 e_1) (me_X11_pairCell hk.2.1) (ms_X11_pairCell hk.2.1) (hk.2.2.1 (RX5, 48, yX11_pairCell) (List.mem_of_getElem? (i := 12) rfl)) (hP.sub [] rfl) hl.1 rfl rfl (Nat.le_of_ble_eq_true rfl) ⟨rfl, rfl, Nat.le_of_ble_eq_true rfl, Nat.le_of_ble_eq_true rfl, Nat.zero_le _, Nat.zero_le _⟩ dX5_bestOf_2 ?_
  refine lv_istore_n (lv' := [(3, .int r_1), (0, .ref a0), (1, .int x1), (2, .int x2)]) hx hb dX5_bestOf_5 rfl hl (by decide) rfl (fun ls hl => ?_)
  refine lv_iload_n hx hb dX5_bestOf_6 rfl (lv_at hl 2 rfl) ?_
  refine lv_iload_n hx hb dX5_bestOf_7 rfl (lv_at hl 3 rfl) ?_
  refine lv_iconst (v := 0) hx hb dX5_bestOf_8 (by decide) ?_
  obtain ⟨r_2, e_2, h⟩ := sat_bind h
  refine cRN (rest := []) hx hb hml hown hk (k_X11_guessCell l D cI cZ cK x1 x2 0 r_2 e_2) (me_X11_guessCell hk.2.1) (ms_X11_guessCell hk.2.1) (hk.2.2.1 (RX5, 19, yX11_guessCell) (List.mem_of_getElem? (i := 11) rfl)) (hP.sub [] rfl) hl.1 rfl rfl (Nat.le_of_ble_eq_true rfl) ⟨rfl, rfl, Nat.le_of_ble_eq_true rfl, Nat.le_of_ble_eq_true rfl, Nat.zero_le _, Nat.zero_le _⟩ dX5_bestOf_9 ?_
  refine lv_istore (lv' := [(4, .int r_2), (3, .int r_1), (0, .ref a0), (1, .int x1), (2, .int x2)]) hx hb dX5_bestOf_12 hl (by decide) rfl (fun ls hl => ?_)
  refine lv_bipush (v := (-9)) hx hb dX5_bestOf_14 (by decide) ?_
  refine lv_istore (lv' := [(5, .int (-9)), (4, .int r_2), (3, .int r_1), (0, .ref a0), (1, .int x1), (2, .int x2)]) hx hb dX5_bestOf_16 hl (by decide) rfl (fun ls hl => ?_)
  refine lv_iconst (v := 0) hx hb dX5_bestOf_18 (by decide) ?_
  refine lv_istore (lv' := [(6, .int 0), (5, .int (-9)), (4, .int r_2), (3, .int r_1), (0, .ref a0), (1, .int x1), (2, .int x2)]) hx hb dX5_bestOf_19 hl (by decide) rfl (fun ls hl => ?_)
  refine lv_iconst (v := 0) hx hb dX5_bestOf_21 (by decide) ?_
  refine lv_istore (lv' := [(7, .int 0), (6, .int 0), (5, .int (-9)), (4, .int r_2), (3, .int r_1), (0, .ref a0), (1, .int x1), (2, .int x2)]) hx hb dX5_bestOf_22 hl (by decide) rfl (fun ls hl => ?_)
  obtain ⟨T24, hT24, h⟩ := sat_reg h
  have E24 : ∀ (e5_4 : Int32) (ls : Array Slot), T24 e5_4 → lv_has ls 9 [(5, .int e5_4)] → W p l e rm_X5_bestOf s m args below meth c s.heap [] 0 0 Q (F0 m 93 ls []) := by
    intro e5_4 ls h hl
    have h := hT24 _ h
    refine lv_iload hx hb dX5_bestOf_93 (lv_at hl 0 rfl) ?_
    have hR := hC0 _ (sat_some h)
    subst hR
    exact hret _ _ dX5_bestOf_95
  have L24 : ∀ (n : Nat) (x5_24 : Int32) (x6_24 : Int32) (x7_24 : Int32) (ls : Array Slot), sat (f_X5_bestOf_L24 rn ra rf dl gs md tm r_1 r_2 n x5_24 x6_24 x7_24) T24 → lv_has ls 9 [(0, .ref a0), (3, .int r_1), (4, .int r_2), (5, .int x5_24), (6, .int x6_24), (7, .int x7_24)] → W p l e rm_X5_bestOf s m args below meth c s.heap [] 0 0 Q (F0 m 24 ls []) := by
    intro n
    induction n with
    | zero =>
      intro x5_24 x6_24 x7_24 ls h
      rw [f_X5_bestOf_L24] at h
      exact (sat_none h).elim
    | succ n ih =>
      intro x5_24 x6_24 x7_24 ls h hl
      rw [f_X5_bestOf_L24] at h
      refine lv_iload hx hb dX5_bestOf_24 (lv_at hl 5 rfl) ?_
      refine lv_aload_n hx hb dX5_bestOf_26 rfl (lv_at hl 0 rfl) ?_
      refine gf_X5_9 hx hb hown hk hP 0 rfl rfl dX5_bestOf_27 ?_
      refine gf_X5_52 hx hb hown hk hP 1 rfl rfl dX5_bestOf_30 ?_
      refine lv_icmp_ge (tgt := 93) hx hb dX5_bestOf_33 (by decide) (fun c33 => ?_) (fun c33 => ?_)
      · have h := sat_t c33 h
        exact E24 x5_24 _ (sat_some h) (lv_sub hl [3] rfl)
      · have h := sat_f c33 h
        refine lv_aload_n hx hb dX5_bestOf_36 rfl (lv_at hl 0 rfl) ?_
        refine gf_X5_15 hx hb hown hk hP 0 rfl rfl dX5_bestOf_37 ?_
        refine gf_X5_55 hx hb hown hk hP 2 rfl rfl dX5_bestOf_40 ?_
        refine gf_X5_59 hx hb hown hk hP 3 rfl rfl dX5_bestOf_43 ?_
        refine lv_iload_n hx hb dX5_bestOf_46 rfl (lv_at hl 1 rfl) ?_
        refine lv_iload hx hb dX5_bestOf_47 (lv_at hl 5 rfl) ?_
        refine lv_iadd hx hb dX5_bestOf_49 ?_
        obtain ⟨hi, h⟩ := sat_in h
        refine va_iald hx hb hk.1 hP 4 0 rfl rfl hi dX5_bestOf_50 ?_
        refine lv_if_le (tgt := 87) hx hb dX5_bestOf_51 (by decide) (fun c51 => ?_) (fun c51 => ?_)
        · have h := sat_t c51 h
          refine lv_iinc (v := x7_24 + 1) (lv' := [(7, .int (x7_24 + 1)), (0, .ref a0), (3, .int r_1), (4, .int r_2), (5, .int x5_24), (6, .int x6_24)]) hx hb dX5_bestOf_87 hl (k := 5) rfl (congrArg (fun z => x7_24 + z) (by decide)) (by decide) rfl (fun ls hl => ?_)
          refine lv_goto (tgt := 24) hx hb dX5_bestOf_90 (by decide) ?_
          exact ih x5_24 x6_24 (x7_24 + 1) _ h (lv_sub hl [1, 2, 3, 4, 5, 0] rfl)
        · have h := sat_f c51 h
          refine lv_aload_n hx hb dX5_bestOf_54 rfl (lv_at hl 0 rfl) ?_
          refine lv_iload hx hb dX5_bestOf_55 (lv_at hl 2 rfl) ?_
          refine lv_iload hx hb dX5_bestOf_57 (lv_at hl 5 rfl) ?_
          refine lv_iadd hx hb dX5_bestOf_59 ?_
          obtain ⟨r_3, e_3, h⟩ := sat_bind h
          refine cRV (rest := []) hx hb hml hown hk (k_X5_guessAt l D cI cZ cK a0 a1 a2 a3 a5 a6 a7 a8 a9 a10 rn re rh ra rl rf wz tm gs md (r_2 + x7_24) r_3 e_3) (me_X5_guessAt hk.2.1) (mi_X5_guessAt hk.2.1) (ml_X5_23 hk.2.1) (hP.sub [0, 1, 2, 5, 6] rfl) 0 rfl rfl rfl hl.1 rfl rfl (Nat.le_of_ble_eq_true rfl) ⟨rfl, rfl, Nat.le_of_ble_eq_true rfl, Nat.le_of_ble_eq_true rfl, Nat.zero_le _, Nat.zero_le _⟩ dX5_bestOf_60 ?_
          refine lv_istore (lv' := [(8, .int r_3), (0, .ref a0), (3, .int r_1), (4, .int r_2), (5, .int x5_24), (6, .int x6_24), (7, .int x7_24)]) hx hb dX5_bestOf_63 hl (by decide) rfl (fun ls hl => ?_)
          refine lv_iload hx hb dX5_bestOf_65 (lv_at hl 4 rfl) ?_
          refine lv_bipush (v := (-9)) hx hb dX5_bestOf_67 (by decide) ?_
          refine lv_icmp_eq (tgt := 79) hx hb dX5_bestOf_69 (by decide) (fun c69 => ?_) (fun c69 => ?_)
          · have h := sat_t c69 h
            refine lv_iload hx hb dX5_bestOf_79 (lv_at hl 6 rfl) ?_
            refine lv_istore (lv' := [(5, .int x7_24), (8, .int r_3), (0, .ref a0), (3, .int r_1), (4, .int r_2), (6, .int x6_24), (7, .int x7_24)]) hx hb dX5_bestOf_81 hl (by decide) rfl (fun ls hl => ?_)
            refine lv_iload hx hb dX5_bestOf_83 (lv_at hl 1 rfl) ?_
            refine lv_istore (lv' := [(6, .int r_3), (5, .int x7_24), (8, .int r_3), (0, .ref a0), (3, .int r_1), (4, .int r_2), (7, .int x7_24)]) hx hb dX5_bestOf_85 hl (by decide) rfl (fun ls hl => ?_)
            refine lv_iinc (v := x7_24 + 1) (lv' := [(7, .int (x7_24 + 1)), (6, .int r_3), (5, .int x7_24), (8, .int r_3), (0, .ref a0), (3, .int r_1), (4, .int r_2)]) hx hb dX5_bestOf_87 hl (k := 6) rfl (congrArg (fun z => x7_24 + z) (by decide)) (by decide) rfl (fun ls hl => ?_)
            refine lv_goto (tgt := 24) hx hb dX5_bestOf_90 (by decide) ?_
            exact ih x7_24 r_3 (x7_24 + 1) _ h (lv_sub hl [4, 5, 6, 2, 1, 0] rfl)
          · have h := sat_f c69 h
            refine lv_iload hx hb dX5_bestOf_72 (lv_at hl 0 rfl) ?_
            refine lv_iload hx hb dX5_bestOf_74 (lv_at hl 5 rfl) ?_
            refine lv_icmp_ge (tgt := 87) hx hb dX5_bestOf_76 (by decide) (fun c76 => ?_) (fun c76 => ?_)
            · have h := sat_t c76 h
              refine lv_iinc (v := x7_24 + 1) (lv' := [(7, .int (x7_24 + 1)), (8, .int r_3), (0, .ref a0), (3, .int r_1), (4, .int r_2), (5, .int x5_24), (6, .int x6_24)]) hx hb dX5_bestOf_87 hl (k := 6) rfl (congrArg (fun z => x7_24 + z) (by decide)) (by decide) rfl (fun ls hl => ?_)
              refine lv_goto (tgt := 24) hx hb dX5_bestOf_90 (by decide) ?_
              exact ih x5_24 x6_24 (x7_24 + 1) _ h (lv_sub hl [2, 3, 4, 5, 6, 0] rfl)
            · have h := sat_f c76 h
              refine lv_iload hx hb dX5_bestOf_79 (lv_at hl 6 rfl) ?_
              refine lv_istore (lv' := [(5, .int x7_24), (8, .int r_3), (0, .ref a0), (3, .int r_1), (4, .int r_2), (6, .int x6_24), (7, .int x7_24)]) hx hb dX5_bestOf_81 hl (by decide) rfl (fun ls hl => ?_)
              refine lv_iload hx hb dX5_bestOf_83 (lv_at hl 1 rfl) ?_
              refine lv_istore (lv' := [(6, .int r_3), (5, .int x7_24), (8, .int r_3), (0, .ref a0), (3, .int r_1), (4, .int r_2), (7, .int x7_24)]) hx hb dX5_bestOf_85 hl (by decide) rfl (fun ls hl => ?_)
              refine lv_iinc (v := x7_24 + 1) (lv' := [(7, .int (x7_24 + 1)), (6, .int r_3), (5, .int x7_24), (8, .int r_3), (0, .ref a0), (3, .int r_1), (4, .int r_2)]) hx hb dX5_bestOf_87 hl (k := 6) rfl (congrArg (fun z => x7_24 + z) (by decide)) (by decide) rfl (fun ls hl => ?_)
              refine lv_goto (tgt := 24) hx hb dX5_bestOf_90 (by decide) ?_
              exact ih x7_24 r_3 (x7_24 + 1) _ h (lv_sub hl [4, 5, 6, 2, 1, 0] rfl)
  exact L24 N (-9) 0 0 _ h (lv_sub hl [5, 4, 3, 2, 1, 0] rfl)
def f_X5_stalestOf_L24 (rn : Int32) (dl : ar) (md : ar) (r_1 : Int32) (r_2 : Int32) : Nat → Int32 → Int32 → Int32 → Option (Int32)
  | 0, _, _, _ => none
  | n + 1, x5_24, x6_24, x7_24 => if rn ≤ x7_24 then some x5_24 else ck (inb (r_1 + x7_24) 36) (if (dl (r_1 + x7_24).toNatClampNeg) ≤ 0 then f_X5_stalestOf_L24 rn dl md r_1 r_2 n x5_24 x6_24 (x7_24 + 1) else ck (inb (r_2 + x7_24) 216) (if x5_24 = (-9) then f_X5_stalestOf_L24 rn dl md r_1 r_2 n x7_24 (md (r_2 + x7_24).toNatClampNeg) (x7_24 + 1) else if x6_24 ≤ (md (r_2 + x7_24).toNatClampNeg) then f_X5_stalestOf_L24 rn dl md r_1 r_2 n x5_24 x6_24 (x7_24 + 1) else f_X5_stalestOf_L24 rn dl md r_1 r_2 n x7_24 (md (r_2 + x7_24).toNatClampNeg) (x7_24 + 1)))
def f_X5_stalestOf (N : Nat) (rn : Int32) (dl : ar) (md : ar) (x1 : Int32) (x2 : Int32) : Option (Int32) := Option.bind (f_X11_pairCell x1 0) fun r_1 => Option.bind (f_X11_guessCell x1 x2 0) fun r_2 => Option.bind (f_X5_stalestOf_L24 rn dl md r_1 r_2 N (-9) 0 0) fun s24 => some s24
abbrev rm_X5_stalestOf : Room := { frames := 1, cells := 0, slots := 0, locals := 22 }
set_option maxRecDepth 100000 in
set_option maxHeartbeats 4000000 in
theorem k_X5_stalestOf (l : Launch) (D : va_G) (cI cZ cK : ClassId) (N : Nat) (a0 a1 a2 a3 a5 a6 a7 a8 a9 a10 a4 : Nat) (rn : Int32) (re : Int32) (rh : Int32) (ra : Int32) (rl : Int32) (rf : Int32) (wz : Int32) (tm : Int32) (lt : Int32) (dl : ar) (md : ar) (x1 : Int32) (x2 : Int32) (R : Int32) (h : f_X5_stalestOf N rn dl md x1 x2 = some R) : Rd l D cI cZ cK yX5_stalestOf cX5_stalestOf 9 (some .int) rm_X5_stalestOf [.ref a0, .int x1, .int x2] [(a0, .inr (5, [.ref a1, .ref a2])), (a1, .inr (7, [.int rn, .int re, .int rh, .int ra, .int rl, .int rf])), (a2, .inr (1, [.ref a3, .ref a5, .ref a6, .ref a7, .ref a8, .ref a9, .ref a10, .int wz, .int tm])), (a3, .inr (3, [.ref a4, .int lt])), (a4, .inl (cI, 36, .inl dl)), (a7, .inl (cI, 216, .inl md))] R := by
  refine rd_of (by decide) (vp_nar_int _) (Nat.le_of_ble_eq_true rfl) ?_
  intro p e s m args below meth c Q ls hx hb hml hown hk hP hret hl
  have hl : lv_has ls 9 [(0, .ref a0), (1, .int x1), (2, .int x2)] := hl
  obtain ⟨C0, hC0, h⟩ := sat_top h
  unfold f_X5_stalestOf at h
  refine lv_iload_n hx hb dX5_stalestOf_0 rfl (lv_at hl 1 rfl) ?_
  refine lv_iconst (v := 0) hx hb dX5_stalestOf_1 (by decide) ?_
  obtain ⟨r_1, e_1, h⟩ := sat_bind h
  refine cRN (rest := []) hx hb hml hown hk (k_X11_pairCell l D cI cZ cK x1 0 r_1 e_1) (me_X11_pairCell hk.2.1) (ms_X11_pairCell hk.2.1) (hk.2.2.1 (RX5, 48, yX11_pairCell) (List.mem_of_getElem? (i := 12) rfl)) (hP.sub [] rfl) hl.1 rfl rfl (Nat.le_of_ble_eq_true rfl) ⟨rfl, rfl, Nat.le_of_ble_eq_true rfl, Nat.le_of_ble_eq_true rfl, Nat.zero_le _, Nat.zero_le _⟩ dX5_stalestOf_2 ?_
  refine lv_istore_n (lv' := [(3, .int r_1), (0, .ref a0), (1, .int x1), (2, .int x2)]) hx hb dX5_stalestOf_5 rfl hl (by decide) rfl (fun ls hl => ?_)
  refine lv_iload_n hx hb dX5_stalestOf_6 rfl (lv_at hl 2 rfl) ?_
  refine lv_iload_n hx hb dX5_stalestOf_7 rfl (lv_at hl 3 rfl) ?_
  refine lv_iconst (v := 0) hx hb dX5_stalestOf_8 (by decide) ?_
  obtain ⟨r_2, e_2, h⟩ := sat_bind h
  refine cRN (rest := []) hx hb hml hown hk (k_X11_guessCell l D cI cZ cK x1 x2 0 r_2 e_2) (me_X11_guessCell hk.2.1) (ms_X11_guessCell hk.2.1) (hk.2.2.1 (RX5, 19, yX11_guessCell) (List.mem_of_getElem? (i := 11) rfl)) (hP.sub [] rfl) hl.1 rfl rfl (Nat.le_of_ble_eq_true rfl) ⟨rfl, rfl, Nat.le_of_ble_eq_true rfl, Nat.le_of_ble_eq_true rfl, Nat.zero_le _, Nat.zero_le _⟩ dX5_stalestOf_9 ?_
  refine lv_istore (lv' := [(4, .int r_2), (3, .int r_1), (0, .ref a0), (1, .int x1), (2, .int x2)]) hx hb dX5_stalestOf_12 hl (by decide) rfl (fun ls hl => ?_)
  refine lv_bipush (v := (-9)) hx hb dX5_stalestOf_14 (by decide) ?_
  refine lv_istore (lv' := [(5, .int (-9)), (4, .int r_2), (3, .int r_1), (0, .ref a0), (1, .int x1), (2, .int x2)]) hx hb dX5_stalestOf_16 hl (by decide) rfl (fun ls hl => ?_)
  refine lv_iconst (v := 0) hx hb dX5_stalestOf_18 (by decide) ?_
  refine lv_istore (lv' := [(6, .int 0), (5, .int (-9)), (4, .int r_2), (3, .int r_1), (0, .ref a0), (1, .int x1), (2, .int x2)]) hx hb dX5_stalestOf_19 hl (by decide) rfl (fun ls hl => ?_)
  refine lv_iconst (v := 0) hx hb dX5_stalestOf_21 (by decide) ?_
  refine lv_istore (lv' := [(7, .int 0), (6, .int 0), (5, .int (-9)), (4, .int r_2), (3, .int r_1), (0, .ref a0), (1, .int x1), (2, .int x2)]) hx hb dX5_stalestOf_22 hl (by decide) rfl (fun ls hl => ?_)
  obtain ⟨T24, hT24, h⟩ := sat_reg h
  have E24 : ∀ (e5_3 : Int32) (ls : Array Slot), T24 e5_3 → lv_has ls 9 [(5, .int e5_3)] → W p l e rm_X5_stalestOf s m args below meth c s.heap [] 0 0 Q (F0 m 97 ls []) := by
    intro e5_3 ls h hl
    have h := hT24 _ h
    refine lv_iload hx hb dX5_stalestOf_97 (lv_at hl 0 rfl) ?_
    have hR := hC0 _ (sat_some h)
    subst hR
    exact hret _ _ dX5_stalestOf_99
  have L24 : ∀ (n : Nat) (x5_24 : Int32) (x6_24 : Int32) (x7_24 : Int32) (ls : Array Slot), sat (f_X5_stalestOf_L24 rn dl md r_1 r_2 n x5_24 x6_24 x7_24) T24 → lv_has ls 9 [(0, .ref a0), (3, .int r_1), (4, .int r_2), (5, .int x5_24), (6, .int x6_24), (7, .int x7_24)] → W p l e rm_X5_stalestOf s m args below meth c s.heap [] 0 0 Q (F0 m 24 ls []) := by
    intro n
    induction n with
    | zero =>
      intro x5_24 x6_24 x7_24 ls h
      rw [f_X5_stalestOf_L24] at h
      exact (sat_none h).elim
    | succ n ih =>
      intro x5_24 x6_24 x7_24 ls h hl
      rw [f_X5_stalestOf_L24] at h
      refine lv_iload hx hb dX5_stalestOf_24 (lv_at hl 5 rfl) ?_
      refine lv_aload_n hx hb dX5_stalestOf_26 rfl (lv_at hl 0 rfl) ?_
      refine gf_X5_9 hx hb hown hk hP 0 rfl rfl dX5_stalestOf_27 ?_
      refine gf_X5_52 hx hb hown hk hP 1 rfl rfl dX5_stalestOf_30 ?_
      refine lv_icmp_ge (tgt := 97) hx hb dX5_stalestOf_33 (by decide) (fun c33 => ?_) (fun c33 => ?_)
      · have h := sat_t c33 h
        exact E24 x5_24 _ (sat_some h) (lv_sub hl [3] rfl)
      · have h := sat_f c33 h
        refine lv_aload_n hx hb dX5_stalestOf_36 rfl (lv_at hl 0 rfl) ?_
        refine gf_X5_15 hx hb hown hk hP 0 rfl rfl dX5_stalestOf_37 ?_
        refine gf_X5_55 hx hb hown hk hP 2 rfl rfl dX5_stalestOf_40 ?_
        refine gf_X5_59 hx hb hown hk hP 3 rfl rfl dX5_stalestOf_43 ?_
        refine lv_iload_n hx hb dX5_stalestOf_46 rfl (lv_at hl 1 rfl) ?_
        refine lv_iload hx hb dX5_stalestOf_47 (lv_at hl 5 rfl) ?_
        refine lv_iadd hx hb dX5_stalestOf_49 ?_
        obtain ⟨hi, h⟩ := sat_in h
        refine va_iald hx hb hk.1 hP 4 0 rfl rfl hi dX5_stalestOf_50 ?_
        refine lv_if_le (tgt := 91) hx hb dX5_stalestOf_51 (by decide) (fun c51 => ?_) (fun c51 => ?_)
        · have h := sat_t c51 h
          refine lv_iinc (v := x7_24 + 1) (lv' := [(7, .int (x7_24 + 1)), (0, .ref a0), (3, .int r_1), (4, .int r_2), (5, .int x5_24), (6, .int x6_24)]) hx hb dX5_stalestOf_91 hl (k := 5) rfl (congrArg (fun z => x7_24 + z) (by decide)) (by decide) rfl (fun ls hl => ?_)
          refine lv_goto (tgt := 24) hx hb dX5_stalestOf_94 (by decide) ?_
          exact ih x5_24 x6_24 (x7_24 + 1) _ h (lv_sub hl [1, 2, 3, 4, 5, 0] rfl)
        · have h := sat_f c51 h
          refine lv_aload_n hx hb dX5_stalestOf_54 rfl (lv_at hl 0 rfl) ?_
          refine gf_X5_15 hx hb hown hk hP 0 rfl rfl dX5_stalestOf_55 ?_
          refine gf_X5_27 hx hb hown hk hP 2 rfl rfl dX5_stalestOf_58 ?_
          refine lv_iload hx hb dX5_stalestOf_61 (lv_at hl 2 rfl) ?_
          refine lv_iload hx hb dX5_stalestOf_63 (lv_at hl 5 rfl) ?_
          refine lv_iadd hx hb dX5_stalestOf_65 ?_
          obtain ⟨hi, h⟩ := sat_in h
          refine va_iald hx hb hk.1 hP 5 0 rfl rfl hi dX5_stalestOf_66 ?_
          refine lv_istore (lv' := [(8, .int (md (r_2 + x7_24).toNatClampNeg)), (0, .ref a0), (3, .int r_1), (4, .int r_2), (5, .int x5_24), (6, .int x6_24), (7, .int x7_24)]) hx hb dX5_stalestOf_67 hl (by decide) rfl (fun ls hl => ?_)
          refine lv_iload hx hb dX5_stalestOf_69 (lv_at hl 4 rfl) ?_
          refine lv_bipush (v := (-9)) hx hb dX5_stalestOf_71 (by decide) ?_
          refine lv_icmp_eq (tgt := 83) hx hb dX5_stalestOf_73 (by decide) (fun c73 => ?_) (fun c73 => ?_)
          · have h := sat_t c73 h
            refine lv_iload hx hb dX5_stalestOf_83 (lv_at hl 6 rfl) ?_
            refine lv_istore (lv' := [(5, .int x7_24), (8, .int (md (r_2 + x7_24).toNatClampNeg)), (0, .ref a0), (3, .int r_1), (4, .int r_2), (6, .int x6_24), (7, .int x7_24)]) hx hb dX5_stalestOf_85 hl (by decide) rfl (fun ls hl => ?_)
            refine lv_iload hx hb dX5_stalestOf_87 (lv_at hl 1 rfl) ?_
            refine lv_istore (lv' := [(6, .int (md (r_2 + x7_24).toNatClampNeg)), (5, .int x7_24), (8, .int (md (r_2 + x7_24).toNatClampNeg)), (0, .ref a0), (3, .int r_1), (4, .int r_2), (7, .int x7_24)]) hx hb dX5_stalestOf_89 hl (by decide) rfl (fun ls hl => ?_)
            refine lv_iinc (v := x7_24 + 1) (lv' := [(7, .int (x7_24 + 1)), (6, .int (md (r_2 + x7_24).toNatClampNeg)), (5, .int x7_24), (8, .int (md (r_2 + x7_24).toNatClampNeg)), (0, .ref a0), (3, .int r_1), (4, .int r_2)]) hx hb dX5_stalestOf_91 hl (k := 6) rfl (congrArg (fun z => x7_24 + z) (by decide)) (by decide) rfl (fun ls hl => ?_)
            refine lv_goto (tgt := 24) hx hb dX5_stalestOf_94 (by decide) ?_
            exact ih x7_24 (md (r_2 + x7_24).toNatClampNeg) (x7_24 + 1) _ h (lv_sub hl [4, 5, 6, 2, 1, 0] rfl)
          · have h := sat_f c73 h
            refine lv_iload hx hb dX5_stalestOf_76 (lv_at hl 0 rfl) ?_
            refine lv_iload hx hb dX5_stalestOf_78 (lv_at hl 5 rfl) ?_
            refine lv_icmp_ge (tgt := 91) hx hb dX5_stalestOf_80 (by decide) (fun c80 => ?_) (fun c80 => ?_)
            · have h := sat_t c80 h
              refine lv_iinc (v := x7_24 + 1) (lv' := [(7, .int (x7_24 + 1)), (8, .int (md (r_2 + x7_24).toNatClampNeg)), (0, .ref a0), (3, .int r_1), (4, .int r_2), (5, .int x5_24), (6, .int x6_24)]) hx hb dX5_stalestOf_91 hl (k := 6) rfl (congrArg (fun z => x7_24 + z) (by decide)) (by decide) rfl (fun ls hl => ?_)
              refine lv_goto (tgt := 24) hx hb dX5_stalestOf_94 (by decide) ?_
              exact ih x5_24 x6_24 (x7_24 + 1) _ h (lv_sub hl [2, 3, 4, 5, 6, 0] rfl)
            · have h := sat_f c80 h
              refine lv_iload hx hb dX5_stalestOf_83 (lv_at hl 6 rfl) ?_
              refine lv_istore (lv' := [(5, .int x7_24), (8, .int (md (r_2 + x7_24).toNatClampNeg)), (0, .ref a0), (3, .int r_1), (4, .int r_2), (6, .int x6_24), (7, .int x7_24)]) hx hb dX5_stalestOf_85 hl (by decide) rfl (fun ls hl => ?_)
              refine lv_iload hx hb dX5_stalestOf_87 (lv_at hl 1 rfl) ?_
              refine lv_istore (lv' := [(6, .int (md (r_2 + x7_24).toNatClampNeg)), (5, .int x7_24), (8, .int (md (r_2 + x7_24).toNatClampNeg)), (0, .ref a0), (3, .int r_1), (4, .int r_2), (7, .int x7_24)]) hx hb dX5_stalestOf_89 hl (by decide) rfl (fun ls hl => ?_)
              refine lv_iinc (v := x7_24 + 1) (lv' := [(7, .int (x7_24 + 1)), (6, .int (md (r_2 + x7_24).toNatClampNeg)), (5, .int x7_24), (8, .int (md (r_2 + x7_24).toNatClampNeg)), (0, .ref a0), (3, .int r_1), (4, .int r_2)]) hx hb dX5_stalestOf_91 hl (k := 6) rfl (congrArg (fun z => x7_24 + z) (by decide)) (by decide) rfl (fun ls hl => ?_)
              refine lv_goto (tgt := 24) hx hb dX5_stalestOf_94 (by decide) ?_
              exact ih x7_24 (md (r_2 + x7_24).toNatClampNeg) (x7_24 + 1) _ h (lv_sub hl [4, 5, 6, 2, 1, 0] rfl)
  exact L24 N (-9) 0 0 _ h (lv_sub hl [5, 4, 3, 2, 1, 0] rfl)
def f_X5_chooseHop (N : Nat) (rn : Int32) (re : Int32) (ra : Int32) (rf : Int32) (dl : ar) (gs : ar) (md : ar) (ct : ar) (xp : ar) (tm : Int32) (x1 : Int32) (x2 : Int32) : Option (Int32 × ar × ar) := Option.bind (f_X3_neighboursOf N dl x1) fun r_1 => if r_1 = 0 then some ((-9), ct, xp) else ck (inb x1 6) (ck (inb x1 6) (if re ≤ 0 then Option.bind (f_X5_bestOf N rn ra rf dl gs md tm x1 x2) fun r_2 => some (r_2, upd ct x1.toNatClampNeg ((ct x1.toNatClampNeg) + 1), xp) else ck (inb x1 6) (ck (nz re) (if (((upd ct x1.toNatClampNeg ((ct x1.toNatClampNeg) + 1)) x1.toNatClampNeg) - ((upd ct x1.toNatClampNeg ((ct x1.toNatClampNeg) + 1)) x1.toNatClampNeg) / re * re) = 0 then ck (inb x1 6) (ck (inb x1 6) (Option.bind (f_X5_stalestOf N rn dl md x1 x2) fun r_4 => some (r_4, upd ct x1.toNatClampNeg ((ct x1.toNatClampNeg) + 1), upd xp x1.toNatClampNeg ((xp x1.toNatClampNeg) + 1)))) else Option.bind (f_X5_bestOf N rn ra rf dl gs md tm x1 x2) fun r_3 => some (r_3, upd ct x1.toNatClampNeg ((ct x1.toNatClampNeg) + 1), xp)))))
abbrev rm_X5_chooseHop : Room := { frames := 3, cells := 0, slots := 0, locals := 66 }
set_option maxRecDepth 100000 in
set_option maxHeartbeats 4000000 in
theorem k_X5_chooseHop (l : Launch) (D : va_G) (cI cZ cK : ClassId) (N : Nat) (a0 a1 a2 a3 a5 a6 a7 a8 a9 a10 a4 : Nat) (rn : Int32) (re : Int32) (rh : Int32) (ra : Int32) (rl : Int32) (rf : Int32) (wz : Int32) (tm : Int32) (lt : Int32) (dl : ar) (gs : ar) (md : ar) (ct : ar) (xp : ar) (x1 : Int32) (x2 : Int32) (R : Int32 × ar × ar) (h : f_X5_chooseHop N rn re ra rf dl gs md ct xp tm x1 x2 = some R) : Mu l D cI cZ cK yX5_chooseHop cX5_chooseHop 3 (some .int) rm_X5_chooseHop [.ref a0, .int x1, .int x2] [(a0, .inr (5, [.ref a1, .ref a2])), (a1, .inr (7, [.int rn, .int re, .int rh, .int ra, .int rl, .int rf])), (a2, .inr (1, [.ref a3, .ref a5, .ref a6, .ref a7, .ref a8, .ref a9, .ref a10, .int wz, .int tm])), (a3, .inr (3, [.ref a4, .int lt])), (a4, .inl (cI, 36, .inl dl)), (a6, .inl (cI, 216, .inl gs)), (a7, .inl (cI, 216, .inl md)), (a8, .inl (cI, 6, .inl ct)), (a9, .inl (cI, 6, .inl xp))] (some (.int R.1)) [(a0, .inr (5, [.ref a1, .ref a2])), (a1, .inr (7, [.int rn, .int re, .int rh, .int ra, .int rl, .int rf])), (a2, .inr (1, [.ref a3, .ref a5, .ref a6, .ref a7, .ref a8, .ref a9, .ref a10, .int wz, .int tm])), (a3, .inr (3, [.ref a4, .int lt])), (a4, .inl (cI, 36, .inl dl)), (a6, .inl (cI, 216, .inl gs)), (a7, .inl (cI, 216, .inl md)), (a8, .inl (cI, 6, .inl R.2.1)), (a9, .inl (cI, 6, .inl R.2.2))] := by
  refine mi_of (by decide) (vp_nar_int _) (Nat.le_of_ble_eq_true rfl) ?_
  intro p e s m args below meth c Q A ls hx hb hml hown hk hA w hret hl
  have hl : lv_has ls 3 [(0, .ref a0), (1, .int x1), (2, .int x2)] := hl
  obtain ⟨C0, hC0, h⟩ := sat_top h
  unfold f_X5_chooseHop at h
  refine lv_aload_n hx hb dX5_chooseHop_0 rfl (lv_at hl 0 rfl) ?_
  refine gf_X5_15 hx hb hown hk w.1 0 rfl rfl dX5_chooseHop_1 ?_
  refine gf_X5_55 hx hb hown hk w.1 2 rfl rfl dX5_chooseHop_4 ?_
  refine lv_iload_n hx hb dX5_chooseHop_7 rfl (lv_at hl 1 rfl) ?_
  obtain ⟨r_1, e_1, h⟩ := sat_bind h
  refine cRV (rest := []) hx hb hml hown hk (k_X3_neighboursOf l D cI cZ cK N a3 a4 lt dl x1 r_1 e_1) (me_X3_neighboursOf hk.2.1) (mi_X3_neighboursOf hk.2.1) (ml_X5_64 hk.2.1) (w.1.sub [3, 4] rfl) 0 rfl rfl rfl hl.1 rfl rfl (Nat.le_of_ble_eq_true rfl) ⟨rfl, rfl, Nat.le_of_ble_eq_true rfl, Nat.le_of_ble_eq_true rfl, Nat.zero_le _, Nat.zero_le _⟩ dX5_chooseHop_8 ?_
  refine lv_if_ne (tgt := 17) hx hb dX5_chooseHop_11 (by decide) (fun c11 => ?_) (fun c11 => ?_)
  · have h := sat_f c11 h
    refine lv_aload_n hx hb dX5_chooseHop_17 rfl (lv_at hl 0 rfl) ?_
    refine gf_X5_15 hx hb hown hk w.1 0 rfl rfl dX5_chooseHop_18 ?_
    refine gf_X5_67 hx hb hown hk w.1 2 rfl rfl dX5_chooseHop_21 ?_
    refine lv_iload_n hx hb dX5_chooseHop_24 rfl (lv_at hl 1 rfl) ?_
    refine lv_dup2_11 hx hb dX5_chooseHop_25 rfl rfl ?_
    obtain ⟨hi, h⟩ := sat_in h
    refine va_iald hx hb hk.1 w.1 7 0 rfl rfl hi dX5_chooseHop_26 ?_
    refine lv_iconst (v := 1) hx hb dX5_chooseHop_27 (by decide) ?_
    refine lv_iadd hx hb dX5_chooseHop_28 ?_
    obtain ⟨hi, h⟩ := sat_in h
    refine ra_ist (ws' := [(a0, .inr (5, [.ref a1, .ref a2])), (a1, .inr (7, [.int rn, .int re, .int rh, .int ra, .int rl, .int rf])), (a2, .inr (1, [.ref a3, .ref a5, .ref a6, .ref a7, .ref a8, .ref a9, .ref a10, .int wz, .int tm])), (a3, .inr (3, [.ref a4, .int lt])), (a4, .inl (cI, 36, .inl dl)), (a6, .inl (cI, 216, .inl gs)), (a7, .inl (cI, 216, .inl md)), (a8, .inl (cI, 6, .inl (upd ct x1.toNatClampNeg ((ct x1.toNatClampNeg) + 1)))), (a9, .inl (cI, 6, .inl xp))]) hx hb hk w 7 rfl hi rfl dX5_chooseHop_29 (fun H locs w => ?_)
    refine lv_aload_n hx hb dX5_chooseHop_30 rfl (lv_at hl 0 rfl) ?_
    refine gf_X5_9 hx hb hown hk w.1 0 rfl rfl dX5_chooseHop_31 ?_
    refine gf_X5_70 hx hb hown hk w.1 1 rfl rfl dX5_chooseHop_34 ?_
    refine lv_if_le (tgt := 80) hx hb dX5_chooseHop_37 (by decide) (fun c37 => ?_) (fun c37 => ?_)
    · have h := sat_t c37 h
      refine lv_aload_n hx hb dX5_chooseHop_80 rfl (lv_at hl 0 rfl) ?_
      refine lv_iload_n hx hb dX5_chooseHop_81 rfl (lv_at hl 1 rfl) ?_
      refine lv_iload_n hx hb dX5_chooseHop_82 rfl (lv_at hl 2 rfl) ?_
      obtain ⟨r_2, e_2, h⟩ := sat_bind h
      refine cRV (rest := []) hx hb hml hown hk (k_X5_bestOf l D cI cZ cK N a0 a1 a2 a3 a5 a6 a7 a8 a9 a10 a4 rn re rh ra rl rf wz tm lt dl gs md x1 x2 r_2 e_2) (me_X5_bestOf hk.2.1) (mi_X5_bestOf hk.2.1) (ml_X5_79 hk.2.1) (w.1.sub [0, 1, 2, 3, 4, 5, 6] rfl) 0 rfl rfl rfl hl.1 rfl rfl (Nat.le_of_ble_eq_true rfl) ⟨rfl, rfl, Nat.le_of_ble_eq_true rfl, Nat.le_of_ble_eq_true rfl, Nat.zero_le _, Nat.zero_le _⟩ dX5_chooseHop_83 ?_
      have hR := hC0 _ (sat_some h)
      subst hR
      exact hret _ _ _ _ w dX5_chooseHop_86
    · have h := sat_f c37 h
      refine lv_aload_n hx hb dX5_chooseHop_40 rfl (lv_at hl 0 rfl) ?_
      refine gf_X5_15 hx hb hown hk w.1 0 rfl rfl dX5_chooseHop_41 ?_
      refine gf_X5_67 hx hb hown hk w.1 2 rfl rfl dX5_chooseHop_44 ?_
      refine lv_iload_n hx hb dX5_chooseHop_47 rfl (lv_at hl 1 rfl) ?_
      obtain ⟨hi, h⟩ := sat_in h
      refine va_iald hx hb hk.1 w.1 7 0 rfl rfl hi dX5_chooseHop_48 ?_
      refine lv_aload_n hx hb dX5_chooseHop_49 rfl (lv_at hl 0 rfl) ?_
      refine gf_X5_9 hx hb hown hk w.1 0 rfl rfl dX5_chooseHop_50 ?_
      refine gf_X5_70 hx hb hown hk w.1 1 rfl rfl dX5_chooseHop_53 ?_
      obtain ⟨hz, h⟩ := sat_nz h
      refine lv_irem hx hb dX5_chooseHop_56 hz ?_
      refine lv_if_ne (tgt := 80) hx hb dX5_chooseHop_57 (by decide) (fun c57 => ?_) (fun c57 => ?_)
      · have h := sat_f c57 h
        refine lv_aload_n hx hb dX5_chooseHop_80 rfl (lv_at hl 0 rfl) ?_
        refine lv_iload_n hx hb dX5_chooseHop_81 rfl (lv_at hl 1 rfl) ?_
        refine lv_iload_n hx hb dX5_chooseHop_82 rfl (lv_at hl 2 rfl) ?_
        obtain ⟨r_3, e_3, h⟩ := sat_bind h
        refine cRV (rest := []) hx hb hml hown hk (k_X5_bestOf l D cI cZ cK N a0 a1 a2 a3 a5 a6 a7 a8 a9 a10 a4 rn re rh ra rl rf wz tm lt dl gs md x1 x2 r_3 e_3) (me_X5_bestOf hk.2.1) (mi_X5_bestOf hk.2.1) (ml_X5_79 hk.2.1) (w.1.sub [0, 1, 2, 3, 4, 5, 6] rfl) 0 rfl rfl rfl hl.1 rfl rfl (Nat.le_of_ble_eq_true rfl) ⟨rfl, rfl, Nat.le_of_ble_eq_true rfl, Nat.le_of_ble_eq_true rfl, Nat.zero_le _, Nat.zero_le _⟩ dX5_chooseHop_83 ?_
        have hR := hC0 _ (sat_some h)
        subst hR
        exact hret _ _ _ _ w dX5_chooseHop_86
      · have h := sat_t c57 h
        refine lv_aload_n hx hb dX5_chooseHop_60 rfl (lv_at hl 0 rfl) ?_
        refine gf_X5_15 hx hb hown hk w.1 0 rfl rfl dX5_chooseHop_61 ?_
        refine gf_X5_73 hx hb hown hk w.1 2 rfl rfl dX5_chooseHop_64 ?_
        refine lv_iload_n hx hb dX5_chooseHop_67 rfl (lv_at hl 1 rfl) ?_
        refine lv_dup2_11 hx hb dX5_chooseHop_68 rfl rfl ?_
        obtain ⟨hi, h⟩ := sat_in h
        refine va_iald hx hb hk.1 w.1 8 0 rfl rfl hi dX5_chooseHop_69 ?_
        refine lv_iconst (v := 1) hx hb dX5_chooseHop_70 (by decide) ?_
        refine lv_iadd hx hb dX5_chooseHop_71 ?_
        obtain ⟨hi, h⟩ := sat_in h
        refine ra_ist (ws' := [(a0, .inr (5, [.ref a1, .ref a2])), (a1, .inr (7, [.int rn, .int re, .int rh, .int ra, .int rl, .int rf])), (a2, .inr (1, [.ref a3, .ref a5, .ref a6, .ref a7, .ref a8, .ref a9, .ref a10, .int wz, .int tm])), (a3, .inr (3, [.ref a4, .int lt])), (a4, .inl (cI, 36, .inl dl)), (a6, .inl (cI, 216, .inl gs)), (a7, .inl (cI, 216, .inl md)), (a8, .inl (cI, 6, .inl (upd ct x1.toNatClampNeg ((ct x1.toNatClampNeg) + 1)))), (a9, .inl (cI, 6, .inl (upd xp x1.toNatClampNeg ((xp x1.toNatClampNeg) + 1))))]) hx hb hk w 8 rfl hi rfl dX5_chooseHop_72 (fun H locs w => ?_)
        refine lv_aload_n hx hb dX5_chooseHop_73 rfl (lv_at hl 0 rfl) ?_
        refine lv_iload_n hx hb dX5_chooseHop_74 rfl (lv_at hl 1 rfl) ?_
        refine lv_iload_n hx hb dX5_chooseHop_75 rfl (lv_at hl 2 rfl) ?_
        obtain ⟨r_4, e_4, h⟩ := sat_bind h
        refine cRV (rest := []) hx hb hml hown hk (k_X5_stalestOf l D cI cZ cK N a0 a1 a2 a3 a5 a6 a7 a8 a9 a10 a4 rn re rh ra rl rf wz tm lt dl md x1 x2 r_4 e_4) (me_X5_stalestOf hk.2.1) (mi_X5_stalestOf hk.2.1) (ml_X5_76 hk.2.1) (w.1.sub [0, 1, 2, 3, 4, 6] rfl) 0 rfl rfl rfl hl.1 rfl rfl (Nat.le_of_ble_eq_true rfl) ⟨rfl, rfl, Nat.le_of_ble_eq_true rfl, Nat.le_of_ble_eq_true rfl, Nat.zero_le _, Nat.zero_le _⟩ dX5_chooseHop_76 ?_
        have hR := hC0 _ (sat_some h)
        subst hR
        exact hret _ _ _ _ w dX5_chooseHop_79
  · have h := sat_t c11 h
    refine lv_bipush (v := (-9)) hx hb dX5_chooseHop_14 (by decide) ?_
    have hR := hC0 _ (sat_some h)
    subst hR
    exact hret _ _ _ _ w dX5_chooseHop_16
def f_X5_toldBy (N : Nat) (rn : Int32) (ra : Int32) (rf : Int32) (dl : ar) (gs : ar) (md : ar) (tm : Int32) (x1 : Int32) (x2 : Int32) : Option (Int32) := if x1 = x2 then some 0 else Option.bind (f_X5_bestOf N rn ra rf dl gs md tm x1 x2) fun r_1 => if r_1 = (-9) then some 0 else Option.bind (f_X5_guessBy ra rf gs md tm x1 x2 r_1) fun r_2 => some r_2
abbrev rm_X5_toldBy : Room := { frames := 2, cells := 0, slots := 0, locals := 50 }
set_option maxRecDepth 100000 in
set_option maxHeartbeats 4000000 in
theorem k_X5_toldBy (l : Launch) (D : va_G) (cI cZ cK : ClassId) (N : Nat) (a0 a1 a2 a3 a5 a6 a7 a8 a9 a10 a4 : Nat) (rn : Int32) (re : Int32) (rh : Int32) (ra : Int32) (rl : Int32) (rf : Int32) (wz : Int32) (tm : Int32) (lt : Int32) (dl : ar) (gs : ar) (md : ar) (x1 : Int32) (x2 : Int32) (R : Int32) (h : f_X5_toldBy N rn ra rf dl gs md tm x1 x2 = some R) : Rd l D cI cZ cK yX5_toldBy cX5_toldBy 4 (some .int) rm_X5_toldBy [.ref a0, .int x1, .int x2] [(a0, .inr (5, [.ref a1, .ref a2])), (a1, .inr (7, [.int rn, .int re, .int rh, .int ra, .int rl, .int rf])), (a2, .inr (1, [.ref a3, .ref a5, .ref a6, .ref a7, .ref a8, .ref a9, .ref a10, .int wz, .int tm])), (a3, .inr (3, [.ref a4, .int lt])), (a4, .inl (cI, 36, .inl dl)), (a6, .inl (cI, 216, .inl gs)), (a7, .inl (cI, 216, .inl md))] R := by
  refine rd_of (by decide) (vp_nar_int _) (Nat.le_of_ble_eq_true rfl) ?_
  intro p e s m args below meth c Q ls hx hb hml hown hk hP hret hl
  have hl : lv_has ls 4 [(0, .ref a0), (1, .int x1), (2, .int x2)] := hl
  obtain ⟨C0, hC0, h⟩ := sat_top h
  unfold f_X5_toldBy at h
  refine lv_iload_n hx hb dX5_toldBy_0 rfl (lv_at hl 1 rfl) ?_
  refine lv_iload_n hx hb dX5_toldBy_1 rfl (lv_at hl 2 rfl) ?_
  refine lv_icmp_ne (tgt := 7) hx hb dX5_toldBy_2 (by decide) (fun c2 => ?_) (fun c2 => ?_)
  · have h := sat_f c2 h
    refine lv_aload_n hx hb dX5_toldBy_7 rfl (lv_at hl 0 rfl) ?_
    refine lv_iload_n hx hb dX5_toldBy_8 rfl (lv_at hl 1 rfl) ?_
    refine lv_iload_n hx hb dX5_toldBy_9 rfl (lv_at hl 2 rfl) ?_
    obtain ⟨r_1, e_1, h⟩ := sat_bind h
    refine cRV (rest := []) hx hb hml hown hk (k_X5_bestOf l D cI cZ cK N a0 a1 a2 a3 a5 a6 a7 a8 a9 a10 a4 rn re rh ra rl rf wz tm lt dl gs md x1 x2 r_1 e_1) (me_X5_bestOf hk.2.1) (mi_X5_bestOf hk.2.1) (ml_X5_79 hk.2.1) (hP.sub [0, 1, 2, 3, 4, 5, 6] rfl) 0 rfl rfl rfl hl.1 rfl rfl (Nat.le_of_ble_eq_true rfl) ⟨rfl, rfl, Nat.le_of_ble_eq_true rfl, Nat.le_of_ble_eq_true rfl, Nat.zero_le _, Nat.zero_le _⟩ dX5_toldBy_10 ?_
    refine lv_istore_n (lv' := [(3, .int r_1), (0, .ref a0), (1, .int x1), (2, .int x2)]) hx hb dX5_toldBy_13 rfl hl (by decide) rfl (fun ls hl => ?_)
    refine lv_iload_n hx hb dX5_toldBy_14 rfl (lv_at hl 0 rfl) ?_
    refine lv_bipush (v := (-9)) hx hb dX5_toldBy_15 (by decide) ?_
    refine lv_icmp_ne (tgt := 24) hx hb dX5_toldBy_17 (by decide) (fun c17 => ?_) (fun c17 => ?_)
    · have h := sat_f c17 h
      refine lv_aload_n hx hb dX5_toldBy_24 rfl (lv_at hl 1 rfl) ?_
      refine lv_iload_n hx hb dX5_toldBy_25 rfl (lv_at hl 2 rfl) ?_
      refine lv_iload_n hx hb dX5_toldBy_26 rfl (lv_at hl 3 rfl) ?_
      refine lv_iload_n hx hb dX5_toldBy_27 rfl (lv_at hl 0 rfl) ?_
      obtain ⟨r_2, e_2, h⟩ := sat_bind h
      refine cRV (rest := []) hx hb hml hown hk (k_X5_guessBy l D cI cZ cK a0 a1 a2 a3 a5 a6 a7 a8 a9 a10 rn re rh ra rl rf wz tm gs md x1 x2 r_1 r_2 e_2) (me_X5_guessBy hk.2.1) (mi_X5_guessBy hk.2.1) (ml_X5_82 hk.2.1) (hP.sub [0, 1, 2, 5, 6] rfl) 0 rfl rfl rfl hl.1 rfl rfl (Nat.le_of_ble_eq_true rfl) ⟨rfl, rfl, Nat.le_of_ble_eq_true rfl, Nat.le_of_ble_eq_true rfl, Nat.zero_le _, Nat.zero_le _⟩ dX5_toldBy_28 ?_
      have hR := hC0 _ (sat_some h)
      subst hR
      exact hret _ _ dX5_toldBy_31
    · have h := sat_t c17 h
      refine lv_iconst (v := 0) hx hb dX5_toldBy_20 (by decide) ?_
      refine lv_goto (tgt := 31) hx hb dX5_toldBy_21 (by decide) ?_
      have hR := hC0 _ (sat_some h)
      subst hR
      exact hret _ _ dX5_toldBy_31
  · have h := sat_t c2 h
    refine lv_iconst (v := 0) hx hb dX5_toldBy_5 (by decide) ?_
    have hR := hC0 _ (sat_some h)
    subst hR
    exact hret _ _ dX5_toldBy_6
def f_X5_mend (N : Nat) (rn : Int32) (rh : Int32) (ra : Int32) (rf : Int32) (dl : ar) (gs : ar) (md : ar) (tm : Int32) (x1 : Int32) (x2 : Int32) (x3 : Int32) : Option (ar × ar) := Option.bind (f_X3_delayOf dl x1 x3) fun r_1 => Option.bind (f_X5_toldBy N rn ra rf dl gs md tm x3 x2) fun r_2 => Option.bind (f_X11_guessCell x1 x2 x3) fun r_3 => Option.bind (f_X5_guessAt ra rf gs md tm r_3) fun r_4 => ck (inb r_3 216) (ck (inb r_3 216) (some (upd gs r_3.toNatClampNeg (if 63936 < (r_4 + ((((64 * r_1) + r_2) - r_4) >>> (rh &&& 31))) then 63936 else r_4 + ((((64 * r_1) + r_2) - r_4) >>> (rh &&& 31))), upd md r_3.toNatClampNeg tm)))
abbrev rm_X5_mend : Room := { frames := 3, cells := 0, slots := 0, locals := 73 }
set_option maxRecDepth 100000 in
set_option maxHeartbeats 4000000 in
theorem k_X5_mend (l : Launch) (D : va_G) (cI cZ cK : ClassId) (N : Nat) (a0 a1 a2 a3 a5 a6 a7 a8 a9 a10 a4 : Nat) (rn : Int32) (re : Int32) (rh : Int32) (ra : Int32) (rl : Int32) (rf : Int32) (wz : Int32) (tm : Int32) (lt : Int32) (dl : ar) (gs : ar) (md : ar) (x1 : Int32) (x2 : Int32) (x3 : Int32) (R : ar × ar) (h : f_X5_mend N rn rh ra rf dl gs md tm x1 x2 x3 = some R) : Mu l D cI cZ cK yX5_mend cX5_mend 7 none rm_X5_mend [.ref a0, .int x1, .int x2, .int x3] [(a0, .inr (5, [.ref a1, .ref a2])), (a1, .inr (7, [.int rn, .int re, .int rh, .int ra, .int rl, .int rf])), (a2, .inr (1, [.ref a3, .ref a5, .ref a6, .ref a7, .ref a8, .ref a9, .ref a10, .int wz, .int tm])), (a3, .inr (3, [.ref a4, .int lt])), (a4, .inl (cI, 36, .inl dl)), (a6, .inl (cI, 216, .inl gs)), (a7, .inl (cI, 216, .inl md))] none [(a0, .inr (5, [.ref a1, .ref a2])), (a1, .inr (7, [.int rn, .int re, .int rh, .int ra, .int rl, .int rf])), (a2, .inr (1, [.ref a3, .ref a5, .ref a6, .ref a7, .ref a8, .ref a9, .ref a10, .int wz, .int tm])), (a3, .inr (3, [.ref a4, .int lt])), (a4, .inl (cI, 36, .inl dl)), (a6, .inl (cI, 216, .inl R.1)), (a7, .inl (cI, 216, .inl R.2))] := by
  refine mv_of (by decide) (Nat.le_of_ble_eq_true rfl) ?_
  intro p e s m args below meth c Q A ls hx hb hml hown hk hA w hret hl
  have hl : lv_has ls 7 [(0, .ref a0), (1, .int x1), (2, .int x2), (3, .int x3)] := hl
  obtain ⟨C0, hC0, h⟩ := sat_top h
  unfold f_X5_mend at h
  refine lv_bipush (v := 64) hx hb dX5_mend_0 (by decide) ?_
  refine lv_aload_n hx hb dX5_mend_2 rfl (lv_at hl 0 rfl) ?_
  refine gf_X5_15 hx hb hown hk w.1 0 rfl rfl dX5_mend_3 ?_
  refine gf_X5_55 hx hb hown hk w.1 2 rfl rfl dX5_mend_6 ?_
  refine lv_iload_n hx hb dX5_mend_9 rfl (lv_at hl 1 rfl) ?_
  refine lv_iload_n hx hb dX5_mend_10 rfl (lv_at hl 3 rfl) ?_
  obtain ⟨r_1, e_1, h⟩ := sat_bind h
  refine cRV (rest := [.int 64]) hx hb hml hown hk (k_X3_delayOf l D cI cZ cK a3 a4 lt dl x1 x3 r_1 e_1) (me_X3_delayOf hk.2.1) (mi_X3_delayOf hk.2.1) (ml_X5_85 hk.2.1) (w.1.sub [3, 4] rfl) 0 rfl rfl rfl hl.1 rfl rfl (Nat.le_of_ble_eq_true rfl) ⟨rfl, rfl, Nat.le_of_ble_eq_true rfl, Nat.le_of_ble_eq_true rfl, Nat.zero_le _, Nat.zero_le _⟩ dX5_mend_11 ?_
  refine lv_imul hx hb dX5_mend_14 ?_
  refine lv_aload_n hx hb dX5_mend_15 rfl (lv_at hl 0 rfl) ?_
  refine lv_iload_n hx hb dX5_mend_16 rfl (lv_at hl 3 rfl) ?_
  refine lv_iload_n hx hb dX5_mend_17 rfl (lv_at hl 2 rfl) ?_
  obtain ⟨r_2, e_2, h⟩ := sat_bind h
  refine cRV (rest := [.int (64 * r_1)]) hx hb hml hown hk (k_X5_toldBy l D cI cZ cK N a0 a1 a2 a3 a5 a6 a7 a8 a9 a10 a4 rn re rh ra rl rf wz tm lt dl gs md x3 x2 r_2 e_2) (me_X5_toldBy hk.2.1) (mi_X5_toldBy hk.2.1) (ml_X5_88 hk.2.1) (w.1.sub [0, 1, 2, 3, 4, 5, 6] rfl) 0 rfl rfl rfl hl.1 rfl rfl (Nat.le_of_ble_eq_true rfl) ⟨rfl, rfl, Nat.le_of_ble_eq_true rfl, Nat.le_of_ble_eq_true rfl, Nat.zero_le _, Nat.zero_le _⟩ dX5_mend_18 ?_
  refine lv_iadd hx hb dX5_mend_21 ?_
  refine lv_istore (lv' := [(4, .int ((64 * r_1) + r_2)), (0, .ref a0), (1, .int x1), (2, .int x2), (3, .int x3)]) hx hb dX5_mend_22 hl (by decide) rfl (fun ls hl => ?_)
  refine lv_iload_n hx hb dX5_mend_24 rfl (lv_at hl 2 rfl) ?_
  refine lv_iload_n hx hb dX5_mend_25 rfl (lv_at hl 3 rfl) ?_
  refine lv_iload_n hx hb dX5_mend_26 rfl (lv_at hl 4 rfl) ?_
  obtain ⟨r_3, e_3, h⟩ := sat_bind h
  refine cRN (rest := []) hx hb hml hown hk (k_X11_guessCell l D cI cZ cK x1 x2 x3 r_3 e_3) (me_X11_guessCell hk.2.1) (ms_X11_guessCell hk.2.1) (hk.2.2.1 (RX5, 19, yX11_guessCell) (List.mem_of_getElem? (i := 11) rfl)) (w.1.sub [] rfl) hl.1 rfl rfl (Nat.le_of_ble_eq_true rfl) ⟨rfl, rfl, Nat.le_of_ble_eq_true rfl, Nat.le_of_ble_eq_true rfl, Nat.zero_le _, Nat.zero_le _⟩ dX5_mend_27 ?_
  refine lv_istore (lv' := [(5, .int r_3), (4, .int ((64 * r_1) + r_2)), (0, .ref a0), (1, .int x1), (2, .int x2), (3, .int x3)]) hx hb dX5_mend_30 hl (by decide) rfl (fun ls hl => ?_)
  refine lv_aload_n hx hb dX5_mend_32 rfl (lv_at hl 2 rfl) ?_
  refine lv_iload hx hb dX5_mend_33 (lv_at hl 0 rfl) ?_
  obtain ⟨r_4, e_4, h⟩ := sat_bind h
  refine cRV (rest := []) hx hb hml hown hk (k_X5_guessAt l D cI cZ cK a0 a1 a2 a3 a5 a6 a7 a8 a9 a10 rn re rh ra rl rf wz tm gs md r_3 r_4 e_4) (me_X5_guessAt hk.2.1) (mi_X5_guessAt hk.2.1) (ml_X5_23 hk.2.1) (w.1.sub [0, 1, 2, 5, 6] rfl) 0 rfl rfl rfl hl.1 rfl rfl (Nat.le_of_ble_eq_true rfl) ⟨rfl, rfl, Nat.le_of_ble_eq_true rfl, Nat.le_of_ble_eq_true rfl, Nat.zero_le _, Nat.zero_le _⟩ dX5_mend_35 ?_
  refine lv_istore (lv' := [(6, .int r_4), (5, .int r_3), (4, .int ((64 * r_1) + r_2)), (0, .ref a0), (1, .int x1), (2, .int x2), (3, .int x3)]) hx hb dX5_mend_38 hl (by decide) rfl (fun ls hl => ?_)
  refine lv_aload_n hx hb dX5_mend_40 rfl (lv_at hl 3 rfl) ?_
  refine gf_X5_15 hx hb hown hk w.1 0 rfl rfl dX5_mend_41 ?_
  refine gf_X5_45 hx hb hown hk w.1 2 rfl rfl dX5_mend_44 ?_
  refine lv_iload hx hb dX5_mend_47 (lv_at hl 1 rfl) ?_
  refine lv_iload hx hb dX5_mend_49 (lv_at hl 0 rfl) ?_
  refine lv_iload hx hb dX5_mend_51 (lv_at hl 2 rfl) ?_
  refine lv_iload hx hb dX5_mend_53 (lv_at hl 0 rfl) ?_
  refine lv_isub hx hb dX5_mend_55 ?_
  refine lv_aload_n hx hb dX5_mend_56 rfl (lv_at hl 3 rfl) ?_
  refine gf_X5_9 hx hb hown hk w.1 0 rfl rfl dX5_mend_57 ?_
  refine gf_X5_91 hx hb hown hk w.1 1 rfl rfl dX5_mend_60 ?_
  refine lv_ishr hx hb dX5_mend_63 ?_
  refine lv_iadd hx hb dX5_mend_64 ?_
  refine lv_ldc (v := 63936) hx hb hown (co_X5_94 hk.2.1 args) dX5_mend_65 ?_
  refine mm_X5_95 hx hb hml hl.1 hown hk ⟨Nat.le_of_ble_eq_true rfl, Nat.le_of_ble_eq_true rfl, Nat.zero_le _, Nat.zero_le _⟩ rfl dX5_mend_67 ?_
  obtain ⟨hi, h⟩ := sat_in h
  refine ra_ist (ws' := [(a0, .inr (5, [.ref a1, .ref a2])), (a1, .inr (7, [.int rn, .int re, .int rh, .int ra, .int rl, .int rf])), (a2, .inr (1, [.ref a3, .ref a5, .ref a6, .ref a7, .ref a8, .ref a9, .ref a10, .int wz, .int tm])), (a3, .inr (3, [.ref a4, .int lt])), (a4, .inl (cI, 36, .inl dl)), (a6, .inl (cI, 216, .inl (upd gs r_3.toNatClampNeg (if 63936 < (r_4 + ((((64 * r_1) + r_2) - r_4) >>> (rh &&& 31))) then 63936 else r_4 + ((((64 * r_1) + r_2) - r_4) >>> (rh &&& 31)))))), (a7, .inl (cI, 216, .inl md))]) hx hb hk w 5 rfl hi rfl dX5_mend_70 (fun H locs w => ?_)
  refine lv_aload_n hx hb dX5_mend_71 rfl (lv_at hl 3 rfl) ?_
  refine gf_X5_15 hx hb hown hk w.1 0 rfl rfl dX5_mend_72 ?_
  refine gf_X5_27 hx hb hown hk w.1 2 rfl rfl dX5_mend_75 ?_
  refine lv_iload hx hb dX5_mend_78 (lv_at hl 1 rfl) ?_
  refine lv_aload_n hx hb dX5_mend_80 rfl (lv_at hl 3 rfl) ?_
  refine gf_X5_15 hx hb hown hk w.1 0 rfl rfl dX5_mend_81 ?_
  refine gf_X5_33 hx hb hown hk w.1 2 rfl rfl dX5_mend_84 ?_
  obtain ⟨hi, h⟩ := sat_in h
  refine ra_ist (ws' := [(a0, .inr (5, [.ref a1, .ref a2])), (a1, .inr (7, [.int rn, .int re, .int rh, .int ra, .int rl, .int rf])), (a2, .inr (1, [.ref a3, .ref a5, .ref a6, .ref a7, .ref a8, .ref a9, .ref a10, .int wz, .int tm])), (a3, .inr (3, [.ref a4, .int lt])), (a4, .inl (cI, 36, .inl dl)), (a6, .inl (cI, 216, .inl (upd gs r_3.toNatClampNeg (if 63936 < (r_4 + ((((64 * r_1) + r_2) - r_4) >>> (rh &&& 31))) then 63936 else r_4 + ((((64 * r_1) + r_2) - r_4) >>> (rh &&& 31)))))), (a7, .inl (cI, 216, .inl (upd md r_3.toNatClampNeg tm)))]) hx hb hk w 6 rfl hi rfl dX5_mend_87 (fun H locs w => ?_)
  have hR := hC0 _ (sat_some h)
  subst hR
  exact hret _ _ _ _ w dX5_mend_88
def f_X5_deliver_L24 (rn : Int32) (re : Int32) (rh : Int32) (ra : Int32) (rl : Int32) (rf : Int32) (dl : ar) (x2 : Int32) (N : Nat) : Nat → Int32 → Int32 → Int32 → Int32 → Int32 → ar → ar → ar → ar → ar → ar → Option ((Int32 × Int32 × Int32 × ar × ar × ar × ar × ar × ar) ⊕ (Int32 × Int32 × ar × ar × ar × ar × ar × ar))
  | 0, _, _, _, _, _, _, _, _, _, _, _ => none
  | n + 1, x3_24, x4_24, x5_24, wz_24, tm_24, hp_24, gs_24, md_24, ct_24, xp_24, wn_24 => if 100 ≤ x5_24 then some (.inr (wz_24, tm_24, hp_24, gs_24, md_24, ct_24, xp_24, wn_24)) else Option.bind (f_X5_chooseHop N rn re ra rf dl gs_24 md_24 ct_24 xp_24 tm_24 x3_24 x2) fun r_2 => if r_2.1 = (-9) then some (.inl ((-9), wz_24, tm_24, hp_24, gs_24, md_24, r_2.2.1, r_2.2.2, wn_24)) else Option.bind (f_X3_delayOf dl x3_24 r_2.1) fun r_3 => Option.bind (f_X5_mend N rn rh ra rf dl gs_24 md_24 (tm_24 + 1) x3_24 x2 r_2.1) fun r_4 => Option.bind (f_X1_countHop hp_24 wn_24 wz_24 x3_24 r_2.1) fun r_5 => if r_2.1 = x2 then some (.inl (x4_24 + r_3, r_5.1, tm_24 + 1, r_5.2.1, r_4.1, r_4.2, r_2.2.1, r_2.2.2, r_5.2.2)) else if (x4_24 + r_3) ≤ rl then f_X5_deliver_L24 rn re rh ra rl rf dl x2 N n r_2.1 (x4_24 + r_3) (x5_24 + 1) r_5.1 (tm_24 + 1) r_5.2.1 r_4.1 r_4.2 r_2.2.1 r_2.2.2 r_5.2.2 else some (.inl ((-9), r_5.1, tm_24 + 1, r_5.2.1, r_4.1, r_4.2, r_2.2.1, r_2.2.2, r_5.2.2))
def f_X5_deliver (N : Nat) (rn : Int32) (re : Int32) (rh : Int32) (ra : Int32) (rl : Int32) (rf : Int32) (dl : ar) (hp : ar) (gs : ar) (md : ar) (ct : ar) (xp : ar) (wn : ar) (tm : Int32) (x1 : Int32) (x2 : Int32) : Option (Int32 × Int32 × Int32 × ar × ar × ar × ar × ar × ar) := Option.bind (f_X1_addToWay wn 0 x1) fun r_1 => lb (f_X5_deliver_L24 rn re rh ra rl rf dl x2 N N x1 0 0 r_1.1 tm hp gs md ct xp r_1.2) fun s24 => some ((-9), s24.1, s24.2.1, s24.2.2.1, s24.2.2.2.1, s24.2.2.2.2.1, s24.2.2.2.2.2.1, s24.2.2.2.2.2.2.1, s24.2.2.2.2.2.2.2)
abbrev rm_X5_deliver : Room := { frames := 4, cells := 0, slots := 0, locals := 99 }
set_option maxRecDepth 100000 in
set_option maxHeartbeats 4000000 in
theorem k_X5_deliver (l : Launch) (D : va_G) (cI cZ cK : ClassId) (N : Nat) (a0 a1 a2 a3 a5 a6 a7 a8 a9 a10 a4 : Nat) (rn : Int32) (re : Int32) (rh : Int32) (ra : Int32) (rl : Int32) (rf : Int32) (wz : Int32) (tm : Int32) (lt : Int32) (dl : ar) (hp : ar) (gs : ar) (md : ar) (ct : ar) (xp : ar) (wn : ar) (x1 : Int32) (x2 : Int32) (R : Int32 × Int32 × Int32 × ar × ar × ar × ar × ar × ar) (h : f_X5_deliver N rn re rh ra rl rf dl hp gs md ct xp wn tm x1 x2 = some R) : Mu l D cI cZ cK yX5_deliver cX5_deliver 7 (some .int) rm_X5_deliver [.ref a0, .int x1, .int x2] [(a0, .inr (5, [.ref a1, .ref a2])), (a1, .inr (7, [.int rn, .int re, .int rh, .int ra, .int rl, .int rf])), (a2, .inr (1, [.ref a3, .ref a5, .ref a6, .ref a7, .ref a8, .ref a9, .ref a10, .int wz, .int tm])), (a3, .inr (3, [.ref a4, .int lt])), (a4, .inl (cI, 36, .inl dl)), (a5, .inl (cI, 36, .inl hp)), (a6, .inl (cI, 216, .inl gs)), (a7, .inl (cI, 216, .inl md)), (a8, .inl (cI, 6, .inl ct)), (a9, .inl (cI, 6, .inl xp)), (a10, .inl (cI, 101, .inl wn))] (some (.int R.1)) [(a0, .inr (5, [.ref a1, .ref a2])), (a1, .inr (7, [.int rn, .int re, .int rh, .int ra, .int rl, .int rf])), (a2, .inr (1, [.ref a3, .ref a5, .ref a6, .ref a7, .ref a8, .ref a9, .ref a10, .int R.2.1, .int R.2.2.1])), (a3, .inr (3, [.ref a4, .int lt])), (a4, .inl (cI, 36, .inl dl)), (a5, .inl (cI, 36, .inl R.2.2.2.1)), (a6, .inl (cI, 216, .inl R.2.2.2.2.1)), (a7, .inl (cI, 216, .inl R.2.2.2.2.2.1)), (a8, .inl (cI, 6, .inl R.2.2.2.2.2.2.1)), (a9, .inl (cI, 6, .inl R.2.2.2.2.2.2.2.1)), (a10, .inl (cI, 101, .inl R.2.2.2.2.2.2.2.2))] := by
  refine mi_of (by decide) (vp_nar_int _) (Nat.le_of_ble_eq_true rfl) ?_
  intro p e s m args below meth c Q A ls hx hb hml hown hk hA w hret hl
  have hl : lv_has ls 7 [(0, .ref a0), (1, .int x1), (2, .int x2)] := hl
  obtain ⟨C0, hC0, h⟩ := sat_top h
  unfold f_X5_deliver at h
  refine lv_aload_n hx hb dX5_deliver_0 rfl (lv_at hl 0 rfl) ?_
  refine gf_X5_15 hx hb hown hk w.1 0 rfl rfl dX5_deliver_1 ?_
  refine lv_iconst (v := 0) hx hb dX5_deliver_4 (by decide) ?_
  refine pf_X5_100 (ws' := [(a0, .inr (5, [.ref a1, .ref a2])), (a1, .inr (7, [.int rn, .int re, .int rh, .int ra, .int rl, .int rf])), (a2, .inr (1, [.ref a3, .ref a5, .ref a6, .ref a7, .ref a8, .ref a9, .ref a10, .int 0, .int tm])), (a3, .inr (3, [.ref a4, .int lt])), (a4, .inl (cI, 36, .inl dl)), (a5, .inl (cI, 36, .inl hp)), (a6, .inl (cI, 216, .inl gs)), (a7, .inl (cI, 216, .inl md)), (a8, .inl (cI, 6, .inl ct)), (a9, .inl (cI, 6, .inl xp)), (a10, .inl (cI, 101, .inl wn))]) hx hb hown hk w 2 rfl (Nat.le_of_ble_eq_true rfl) rfl dX5_deliver_5 (fun H locs w => ?_)
  refine lv_aload_n hx hb dX5_deliver_8 rfl (lv_at hl 0 rfl) ?_
  refine gf_X5_15 hx hb hown hk w.1 0 rfl rfl dX5_deliver_9 ?_
  refine lv_iload_n hx hb dX5_deliver_12 rfl (lv_at hl 1 rfl) ?_
  obtain ⟨r_1, e_1, h⟩ := sat_bind h
  refine cMV (rest := []) (wr := [(a0, .inr (5, [.ref a1, .ref a2])), (a1, .inr (7, [.int rn, .int re, .int rh, .int ra, .int rl, .int rf])), (a3, .inr (3, [.ref a4, .int lt])), (a4, .inl (cI, 36, .inl dl)), (a5, .inl (cI, 36, .inl hp)), (a6, .inl (cI, 216, .inl gs)), (a7, .inl (cI, 216, .inl md)), (a8, .inl (cI, 6, .inl ct)), (a9, .inl (cI, 6, .inl xp))]) (ws' := [(a0, .inr (5, [.ref a1, .ref a2])), (a1, .inr (7, [.int rn, .int re, .int rh, .int ra, .int rl, .int rf])), (a2, .inr (1, [.ref a3, .ref a5, .ref a6, .ref a7, .ref a8, .ref a9, .ref a10, .int r_1.1, .int tm])), (a3, .inr (3, [.ref a4, .int lt])), (a4, .inl (cI, 36, .inl dl)), (a5, .inl (cI, 36, .inl hp)), (a6, .inl (cI, 216, .inl gs)), (a7, .inl (cI, 216, .inl md)), (a8, .inl (cI, 6, .inl ct)), (a9, .inl (cI, 6, .inl xp)), (a10, .inl (cI, 101, .inl r_1.2))]) hx hb hml hown hk w hA (k_X1_addToWay l D cI cZ cK a2 a3 a5 a6 a7 a8 a9 a10 0 tm wn x1 r_1 e_1) (me_X1_addToWay hk.2.1) (mi_X1_addToWay hk.2.1) (ml_X5_103 hk.2.1) ((pmn 11 [2, 10, 0, 1, 3, 4, 5, 6, 7, 8, 9] rfl rfl (by decide))) ((pmn 11 [2, 3, 0, 4, 5, 6, 7, 8, 9, 10, 1] rfl rfl (by decide))) 0 rfl rfl rfl hl.1 rfl rfl (Nat.le_of_ble_eq_true rfl) ⟨rfl, rfl, Nat.le_of_ble_eq_true rfl, Nat.le_of_ble_eq_true rfl, Nat.zero_le _, Nat.zero_le _⟩ dX5_deliver_13 (fun H locs w => ?_)
  refine W.eq (g2 := F0 m 16 ls []) rfl ?_
  refine lv_iload_n hx hb dX5_deliver_16 rfl (lv_at hl 1 rfl) ?_
  refine lv_istore_n (lv' := [(3, .int x1), (0, .ref a0), (1, .int x1), (2, .int x2)]) hx hb dX5_deliver_17 rfl hl (by decide) rfl (fun ls hl => ?_)
  refine lv_iconst (v := 0) hx hb dX5_deliver_18 (by decide) ?_
  refine lv_istore (lv' := [(4, .int 0), (3, .int x1), (0, .ref a0), (1, .int x1), (2, .int x2)]) hx hb dX5_deliver_19 hl (by decide) rfl (fun ls hl => ?_)
  refine lv_iconst (v := 0) hx hb dX5_deliver_21 (by decide) ?_
  refine lv_istore (lv' := [(5, .int 0), (4, .int 0), (3, .int x1), (0, .ref a0), (1, .int x1), (2, .int x2)]) hx hb dX5_deliver_22 hl (by decide) rfl (fun ls hl => ?_)
  obtain ⟨T24, hr24, hT24, h⟩ := sat_lbr h
  have E24 : ∀ (wz_6 : Int32) (tm_7 : Int32) (hp_8 : ar) (gs_9 : ar) (md_10 : ar) (ct_11 : ar) (xp_12 : ar) (wn_13 : ar) (H : Heap) (locs : List Loc) (ls : Array Slot), T24 (.inr (wz_6, tm_7, hp_8, gs_9, md_10, ct_11, xp_12, wn_13)) → wd D A s.heap H locs [(a0, .inr (5, [.ref a1, .ref a2])), (a1, .inr (7, [.int rn, .int re, .int rh, .int ra, .int rl, .int rf])), (a2, .inr (1, [.ref a3, .ref a5, .ref a6, .ref a7, .ref a8, .ref a9, .ref a10, .int wz_6, .int tm_7])), (a3, .inr (3, [.ref a4, .int lt])), (a4, .inl (cI, 36, .inl dl)), (a5, .inl (cI, 36, .inl hp_8)), (a6, .inl (cI, 216, .inl gs_9)), (a7, .inl (cI, 216, .inl md_10)), (a8, .inl (cI, 6, .inl ct_11)), (a9, .inl (cI, 6, .inl xp_12)), (a10, .inl (cI, 101, .inl wn_13))] → lv_has ls 7 [] → W p l e rm_X5_deliver s m args below meth c H locs 0 0 Q (F0 m 131 ls []) := by
    intro wz_6 tm_7 hp_8 gs_9 md_10 ct_11 xp_12 wn_13 H locs ls h w hl
    have h := hT24 _ h
    dsimp only at h
    refine lv_bipush (v := (-9)) hx hb dX5_deliver_131 (by decide) ?_
    have hR := hC0 _ (sat_some h)
    subst hR
    exact hret _ _ _ _ w dX5_deliver_133
  have L24 : ∀ (n : Nat) (x3_24 : Int32) (x4_24 : Int32) (x5_24 : Int32) (wz_24 : Int32) (tm_24 : Int32) (hp_24 : ar) (gs_24 : ar) (md_24 : ar) (ct_24 : ar) (xp_24 : ar) (wn_24 : ar) (H : Heap) (locs : List Loc) (ls : Array Slot), sat (f_X5_deliver_L24 rn re rh ra rl rf dl x2 N n x3_24 x4_24 x5_24 wz_24 tm_24 hp_24 gs_24 md_24 ct_24 xp_24 wn_24) T24 → wd D A s.heap H locs [(a0, .inr (5, [.ref a1, .ref a2])), (a1, .inr (7, [.int rn, .int re, .int rh, .int ra, .int rl, .int rf])), (a2, .inr (1, [.ref a3, .ref a5, .ref a6, .ref a7, .ref a8, .ref a9, .ref a10, .int wz_24, .int tm_24])), (a3, .inr (3, [.ref a4, .int lt])), (a4, .inl (cI, 36, .inl dl)), (a5, .inl (cI, 36, .inl hp_24)), (a6, .inl (cI, 216, .inl gs_24)), (a7, .inl (cI, 216, .inl md_24)), (a8, .inl (cI, 6, .inl ct_24)), (a9, .inl (cI, 6, .inl xp_24)), (a10, .inl (cI, 101, .inl wn_24))] → lv_has ls 7 [(0, .ref a0), (2, .int x2), (3, .int x3_24), (4, .int x4_24), (5, .int x5_24)] → W p l e rm_X5_deliver s m args below meth c H locs 0 0 Q (F0 m 24 ls []) := by
    intro n
    induction n with
    | zero =>
      intro x3_24 x4_24 x5_24 wz_24 tm_24 hp_24 gs_24 md_24 ct_24 xp_24 wn_24 H locs ls h
      rw [f_X5_deliver_L24] at h
      exact (sat_none h).elim
    | succ n ih =>
      intro x3_24 x4_24 x5_24 wz_24 tm_24 hp_24 gs_24 md_24 ct_24 xp_24 wn_24 H locs ls h w hl
      rw [f_X5_deliver_L24] at h
      refine lv_iload hx hb dX5_deliver_24 (lv_at hl 4 rfl) ?_
      refine lv_bipush (v := 100) hx hb dX5_deliver_26 (by decide) ?_
      refine lv_icmp_ge (tgt := 131) hx hb dX5_deliver_28 (by decide) (fun c28 => ?_) (fun c28 => ?_)
      · have h := sat_t c28 h
        exact E24 wz_24 tm_24 hp_24 gs_24 md_24 ct_24 xp_24 wn_24 _ _ _ (sat_some h) w (lv_sub hl [] rfl)
      · have h := sat_f c28 h
        refine lv_aload_n hx hb dX5_deliver_31 rfl (lv_at hl 0 rfl) ?_
        refine lv_iload_n hx hb dX5_deliver_32 rfl (lv_at hl 2 rfl) ?_
        refine lv_iload_n hx hb dX5_deliver_33 rfl (lv_at hl 1 rfl) ?_
        obtain ⟨r_2, e_2, h⟩ := sat_bind h
        refine cMV (rest := []) (wr := [(a5, .inl (cI, 36, .inl hp_24)), (a10, .inl (cI, 101, .inl wn_24))]) (ws' := [(a0, .inr (5, [.ref a1, .ref a2])), (a1, .inr (7, [.int rn, .int re, .int rh, .int ra, .int rl, .int rf])), (a2, .inr (1, [.ref a3, .ref a5, .ref a6, .ref a7, .ref a8, .ref a9, .ref a10, .int wz_24, .int tm_24])), (a3, .inr (3, [.ref a4, .int lt])), (a4, .inl (cI, 36, .inl dl)), (a5, .inl (cI, 36, .inl hp_24)), (a6, .inl (cI, 216, .inl gs_24)), (a7, .inl (cI, 216, .inl md_24)), (a8, .inl (cI, 6, .inl r_2.2.1)), (a9, .inl (cI, 6, .inl r_2.2.2)), (a10, .inl (cI, 101, .inl wn_24))]) hx hb hml hown hk w hA (k_X5_chooseHop l D cI cZ cK N a0 a1 a2 a3 a5 a6 a7 a8 a9 a10 a4 rn re rh ra rl rf wz_24 tm_24 lt dl gs_24 md_24 ct_24 xp_24 x3_24 x2 r_2 e_2) (me_X5_chooseHop hk.2.1) (mi_X5_chooseHop hk.2.1) (ml_X5_107 hk.2.1) ((pmn 11 [0, 1, 2, 3, 4, 6, 7, 8, 9, 5, 10] rfl rfl (by decide))) ((pmn 11 [0, 1, 2, 3, 4, 9, 5, 6, 7, 8, 10] rfl rfl (by decide))) 0 rfl rfl rfl hl.1 rfl rfl (Nat.le_of_ble_eq_true rfl) ⟨rfl, rfl, Nat.le_of_ble_eq_true rfl, Nat.le_of_ble_eq_true rfl, Nat.zero_le _, Nat.zero_le _⟩ dX5_deliver_34 (fun H locs w => ?_)
        refine W.eq (g2 := F0 m 37 ls [.int r_2.1]) rfl ?_
        refine lv_istore (lv' := [(6, .int r_2.1), (0, .ref a0), (2, .int x2), (3, .int x3_24), (4, .int x4_24), (5, .int x5_24)]) hx hb dX5_deliver_37 hl (by decide) rfl (fun ls hl => ?_)
        refine lv_iload hx hb dX5_deliver_39 (lv_at hl 0 rfl) ?_
        refine lv_bipush (v := (-9)) hx hb dX5_deliver_41 (by decide) ?_
        refine lv_icmp_ne (tgt := 49) hx hb dX5_deliver_43 (by decide) (fun c43 => ?_) (fun c43 => ?_)
        · have h := sat_f c43 h
          refine lv_aload_n hx hb dX5_deliver_49 rfl (lv_at hl 1 rfl) ?_
          refine gf_X5_15 hx hb hown hk w.1 0 rfl rfl dX5_deliver_50 ?_
          refine lv_dup hx hb dX5_deliver_53 rfl ?_
          refine gf_X5_33 hx hb hown hk w.1 2 rfl rfl dX5_deliver_54 ?_
          refine lv_iconst (v := 1) hx hb dX5_deliver_57 (by decide) ?_
          refine lv_iadd hx hb dX5_deliver_58 ?_
          refine pf_X5_33 (ws' := [(a0, .inr (5, [.ref a1, .ref a2])), (a1, .inr (7, [.int rn, .int re, .int rh, .int ra, .int rl, .int rf])), (a2, .inr (1, [.ref a3, .ref a5, .ref a6, .ref a7, .ref a8, .ref a9, .ref a10, .int wz_24, .int (tm_24 + 1)])), (a3, .inr (3, [.ref a4, .int lt])), (a4, .inl (cI, 36, .inl dl)), (a5, .inl (cI, 36, .inl hp_24)), (a6, .inl (cI, 216, .inl gs_24)), (a7, .inl (cI, 216, .inl md_24)), (a8, .inl (cI, 6, .inl r_2.2.1)), (a9, .inl (cI, 6, .inl r_2.2.2)), (a10, .inl (cI, 101, .inl wn_24))]) hx hb hown hk w 2 rfl (Nat.le_of_ble_eq_true rfl) rfl dX5_deliver_59 (fun H locs w => ?_)
          refine lv_iload hx hb dX5_deliver_62 (lv_at hl 4 rfl) ?_
          refine lv_aload_n hx hb dX5_deliver_64 rfl (lv_at hl 1 rfl) ?_
          refine gf_X5_15 hx hb hown hk w.1 0 rfl rfl dX5_deliver_65 ?_
          refine gf_X5_55 hx hb hown hk w.1 2 rfl rfl dX5_deliver_68 ?_
          refine lv_iload_n hx hb dX5_deliver_71 rfl (lv_at hl 3 rfl) ?_
          refine lv_iload hx hb dX5_deliver_72 (lv_at hl 0 rfl) ?_
          obtain ⟨r_3, e_3, h⟩ := sat_bind h
          refine cRV (rest := [.int x4_24]) hx hb hml hown hk (k_X3_delayOf l D cI cZ cK a3 a4 lt dl x3_24 r_2.1 r_3 e_3) (me_X3_delayOf hk.2.1) (mi_X3_delayOf hk.2.1) (ml_X5_85 hk.2.1) (w.1.sub [3, 4] rfl) 0 rfl rfl rfl hl.1 rfl rfl (Nat.le_of_ble_eq_true rfl) ⟨rfl, rfl, Nat.le_of_ble_eq_true rfl, Nat.le_of_ble_eq_true rfl, Nat.zero_le _, Nat.zero_le _⟩ dX5_deliver_74 ?_
          refine lv_iadd hx hb dX5_deliver_77 ?_
          refine lv_istore (lv' := [(4, .int (x4_24 + r_3)), (6, .int r_2.1), (0, .ref a0), (2, .int x2), (3, .int x3_24), (5, .int x5_24)]) hx hb dX5_deliver_78 hl (by decide) rfl (fun ls hl => ?_)
          refine lv_aload_n hx hb dX5_deliver_80 rfl (lv_at hl 2 rfl) ?_
          refine lv_iload_n hx hb dX5_deliver_81 rfl (lv_at hl 4 rfl) ?_
          refine lv_iload_n hx hb dX5_deliver_82 rfl (lv_at hl 3 rfl) ?_
          refine lv_iload hx hb dX5_deliver_83 (lv_at hl 1 rfl) ?_
          obtain ⟨r_4, e_4, h⟩ := sat_bind h
          refine cMV (rest := []) (wr := [(a5, .inl (cI, 36, .inl hp_24)), (a8, .inl (cI, 6, .inl r_2.2.1)), (a9, .inl (cI, 6, .inl r_2.2.2)), (a10, .inl (cI, 101, .inl wn_24))]) (ws' := [(a0, .inr (5, [.ref a1, .ref a2])), (a1, .inr (7, [.int rn, .int re, .int rh, .int ra, .int rl, .int rf])), (a2, .inr (1, [.ref a3, .ref a5, .ref a6, .ref a7, .ref a8, .ref a9, .ref a10, .int wz_24, .int (tm_24 + 1)])), (a3, .inr (3, [.ref a4, .int lt])), (a4, .inl (cI, 36, .inl dl)), (a5, .inl (cI, 36, .inl hp_24)), (a6, .inl (cI, 216, .inl r_4.1)), (a7, .inl (cI, 216, .inl r_4.2)), (a8, .inl (cI, 6, .inl r_2.2.1)), (a9, .inl (cI, 6, .inl r_2.2.2)), (a10, .inl (cI, 101, .inl wn_24))]) hx hb hml hown hk w hA (k_X5_mend l D cI cZ cK N a0 a1 a2 a3 a5 a6 a7 a8 a9 a10 a4 rn re rh ra rl rf wz_24 (tm_24 + 1) lt dl gs_24 md_24 x3_24 x2 r_2.1 r_4 e_4) (me_X5_mend hk.2.1) (mi_X5_mend hk.2.1) (ml_X5_110 hk.2.1) ((pmn 11 [0, 1, 2, 3, 4, 6, 7, 5, 8, 9, 10] rfl rfl (by decide))) ((pmn 11 [0, 1, 2, 3, 4, 7, 5, 6, 8, 9, 10] rfl rfl (by decide))) 0 rfl rfl rfl hl.1 rfl rfl (Nat.le_of_ble_eq_true rfl) ⟨rfl, rfl, Nat.le_of_ble_eq_true rfl, Nat.le_of_ble_eq_true rfl, Nat.zero_le _, Nat.zero_le _⟩ dX5_deliver_85 (fun H locs w => ?_)
          refine W.eq (g2 := F0 m 88 ls []) rfl ?_
          refine lv_aload_n hx hb dX5_deliver_88 rfl (lv_at hl 2 rfl) ?_
          refine gf_X5_15 hx hb hown hk w.1 0 rfl rfl dX5_deliver_89 ?_
          refine lv_iload_n hx hb dX5_deliver_92 rfl (lv_at hl 4 rfl) ?_
          refine lv_iload hx hb dX5_deliver_93 (lv_at hl 1 rfl) ?_
          obtain ⟨r_5, e_5, h⟩ := sat_bind h
          refine cMV (rest := []) (wr := [(a0, .inr (5, [.ref a1, .ref a2])), (a1, .inr (7, [.int rn, .int re, .int rh, .int ra, .int rl, .int rf])), (a3, .inr (3, [.ref a4, .int lt])), (a4, .inl (cI, 36, .inl dl)), (a6, .inl (cI, 216, .inl r_4.1)), (a7, .inl (cI, 216, .inl r_4.2)), (a8, .inl (cI, 6, .inl r_2.2.1)), (a9, .inl (cI, 6, .inl r_2.2.2))]) (ws' := [(a0, .inr (5, [.ref a1, .ref a2])), (a1, .inr (7, [.int rn, .int re, .int rh, .int ra, .int rl, .int rf])), (a2, .inr (1, [.ref a3, .ref a5, .ref a6, .ref a7, .ref a8, .ref a9, .ref a10, .int r_5.1, .int (tm_24 + 1)])), (a3, .inr (3, [.ref a4, .int lt])), (a4, .inl (cI, 36, .inl dl)), (a5, .inl (cI, 36, .inl r_5.2.1)), (a6, .inl (cI, 216, .inl r_4.1)), (a7, .inl (cI, 216, .inl r_4.2)), (a8, .inl (cI, 6, .inl r_2.2.1)), (a9, .inl (cI, 6, .inl r_2.2.2)), (a10, .inl (cI, 101, .inl r_5.2.2))]) hx hb hml hown hk w hA (k_X1_countHop l D cI cZ cK a2 a3 a5 a6 a7 a8 a9 a10 wz_24 (tm_24 + 1) hp_24 wn_24 x3_24 r_2.1 r_5 e_5) (me_X1_countHop hk.2.1) (mi_X1_countHop hk.2.1) (ml_X5_114 hk.2.1) ((pmn 11 [2, 5, 10, 0, 1, 3, 4, 6, 7, 8, 9] rfl rfl (by decide))) ((pmn 11 [3, 4, 0, 5, 6, 1, 7, 8, 9, 10, 2] rfl rfl (by decide))) 0 rfl rfl rfl hl.1 rfl rfl (Nat.le_of_ble_eq_true rfl) ⟨rfl, rfl, Nat.le_of_ble_eq_true rfl, Nat.le_of_ble_eq_true rfl, Nat.zero_le _, Nat.zero_le _⟩ dX5_deliver_95 (fun H locs w => ?_)
          refine W.eq (g2 := F0 m 98 ls []) rfl ?_
          refine lv_iload hx hb dX5_deliver_98 (lv_at hl 1 rfl) ?_
          refine lv_iload_n hx hb dX5_deliver_100 rfl (lv_at hl 3 rfl) ?_
          refine lv_icmp_ne (tgt := 107) hx hb dX5_deliver_101 (by decide) (fun c101 => ?_) (fun c101 => ?_)
          · have h := sat_f c101 h
            refine lv_iload hx hb dX5_deliver_107 (lv_at hl 0 rfl) ?_
            refine lv_aload_n hx hb dX5_deliver_109 rfl (lv_at hl 2 rfl) ?_
            refine gf_X5_9 hx hb hown hk w.1 0 rfl rfl dX5_deliver_110 ?_
            refine gf_X5_118 hx hb hown hk w.1 1 rfl rfl dX5_deliver_113 ?_
            refine lv_icmp_le (tgt := 122) hx hb dX5_deliver_116 (by decide) (fun c116 => ?_) (fun c116 => ?_)
            · have h := sat_t c116 h
              refine lv_iload hx hb dX5_deliver_122 (lv_at hl 1 rfl) ?_
              refine lv_istore_n (lv' := [(3, .int r_2.1), (4, .int (x4_24 + r_3)), (6, .int r_2.1), (0, .ref a0), (2, .int x2), (5, .int x5_24)]) hx hb dX5_deliver_124 rfl hl (by decide) rfl (fun ls hl => ?_)
              refine lv_iinc (v := x5_24 + 1) (lv' := [(5, .int (x5_24 + 1)), (3, .int r_2.1), (4, .int (x4_24 + r_3)), (6, .int r_2.1), (0, .ref a0), (2, .int x2)]) hx hb dX5_deliver_125 hl (k := 5) rfl (congrArg (fun z => x5_24 + z) (by decide)) (by decide) rfl (fun ls hl => ?_)
              refine lv_goto (tgt := 24) hx hb dX5_deliver_128 (by decide) ?_
              exact ih r_2.1 (x4_24 + r_3) (x5_24 + 1) r_5.1 (tm_24 + 1) r_5.2.1 r_4.1 r_4.2 r_2.2.1 r_2.2.2 r_5.2.2 _ _ _ h w (lv_sub hl [4, 5, 1, 2, 0] rfl)
            · have h := sat_f c116 h
              refine lv_bipush (v := (-9)) hx hb dX5_deliver_119 (by decide) ?_
              have hR := hC0 _ (hr24 _ (sat_some h))
              subst hR
              exact hret _ _ _ _ w dX5_deliver_121
          · have h := sat_t c101 h
            refine lv_iload hx hb dX5_deliver_104 (lv_at hl 0 rfl) ?_
            have hR := hC0 _ (hr24 _ (sat_some h))
            subst hR
            exact hret _ _ _ _ w dX5_deliver_106
        · have h := sat_t c43 h
          refine lv_bipush (v := (-9)) hx hb dX5_deliver_46 (by decide) ?_
          have hR := hC0 _ (hr24 _ (sat_some h))
          subst hR
          exact hret _ _ _ _ w dX5_deliver_48
  exact L24 N x1 0 0 r_1.1 tm hp gs md ct xp r_1.2 _ _ _ h w (lv_sub hl [3, 5, 2, 1, 0] rfl)
def f_X5_deliverRound_L17 (rn : Int32) (re : Int32) (rh : Int32) (ra : Int32) (rl : Int32) (rf : Int32) (dl : ar) (N : Nat) (x2_4 : Int32) : Nat → Int32 → Int32 → Int32 → Int32 → ar → ar → ar → ar → ar → ar → Option (Int32 × Int32 × Int32 × ar × ar × ar × ar × ar × ar)
  | 0, _, _, _, _, _, _, _, _, _, _ => none
  | n + 1, x1_17, x3_17, wz_17, tm_17, hp_17, gs_17, md_17, ct_17, xp_17, wn_17 => if rn ≤ x3_17 then some (x1_17, wz_17, tm_17, hp_17, gs_17, md_17, ct_17, xp_17, wn_17) else if x2_4 = x3_17 then f_X5_deliverRound_L17 rn re rh ra rl rf dl N x2_4 n x1_17 (x3_17 + 1) wz_17 tm_17 hp_17 gs_17 md_17 ct_17 xp_17 wn_17 else Option.bind (f_X5_deliver N rn re rh ra rl rf dl hp_17 gs_17 md_17 ct_17 xp_17 wn_17 tm_17 x2_4 x3_17) fun r_1 => if r_1.1 = (-9) then f_X5_deliverRound_L17 rn re rh ra rl rf dl N x2_4 n x1_17 (x3_17 + 1) r_1.2.1 r_1.2.2.1 r_1.2.2.2.1 r_1.2.2.2.2.1 r_1.2.2.2.2.2.1 r_1.2.2.2.2.2.2.1 r_1.2.2.2.2.2.2.2.1 r_1.2.2.2.2.2.2.2.2 else f_X5_deliverRound_L17 rn re rh ra rl rf dl N x2_4 n (x1_17 + 1) (x3_17 + 1) r_1.2.1 r_1.2.2.1 r_1.2.2.2.1 r_1.2.2.2.2.1 r_1.2.2.2.2.2.1 r_1.2.2.2.2.2.2.1 r_1.2.2.2.2.2.2.2.1 r_1.2.2.2.2.2.2.2.2
def f_X5_deliverRound_L4 (rn : Int32) (re : Int32) (rh : Int32) (ra : Int32) (rl : Int32) (rf : Int32) (dl : ar) (N : Nat) : Nat → Int32 → Int32 → Int32 → Int32 → ar → ar → ar → ar → ar → ar → Option (Int32 × Int32 × Int32 × ar × ar × ar × ar × ar × ar)
  | 0, _, _, _, _, _, _, _, _, _, _ => none
  | n + 1, x1_4, x2_4, wz_4, tm_4, hp_4, gs_4, md_4, ct_4, xp_4, wn_4 => if rn ≤ x2_4 then some (x1_4, wz_4, tm_4, hp_4, gs_4, md_4, ct_4, xp_4, wn_4) else Option.bind (f_X5_deliverRound_L17 rn re rh ra rl rf dl N x2_4 N x1_4 0 wz_4 tm_4 hp_4 gs_4 md_4 ct_4 xp_4 wn_4) fun s17 => f_X5_deliverRound_L4 rn re rh ra rl rf dl N n s17.1 (x2_4 + 1) s17.2.1 s17.2.2.1 s17.2.2.2.1 s17.2.2.2.2.1 s17.2.2.2.2.2.1 s17.2.2.2.2.2.2.1 s17.2.2.2.2.2.2.2.1 s17.2.2.2.2.2.2.2.2
def f_X5_deliverRound (N : Nat) (rn : Int32) (re : Int32) (rh : Int32) (ra : Int32) (rl : Int32) (rf : Int32) (dl : ar) (hp : ar) (gs : ar) (md : ar) (ct : ar) (xp : ar) (wn : ar) (wz : Int32) (tm : Int32) : Option (Int32 × Int32 × Int32 × ar × ar × ar × ar × ar × ar) := Option.bind (f_X5_deliverRound_L4 rn re rh ra rl rf dl N N 0 0 wz tm hp gs md ct xp wn) fun s4 => some (s4.1, s4.2.1, s4.2.2.1, s4.2.2.2.1, s4.2.2.2.2.1, s4.2.2.2.2.2.1, s4.2.2.2.2.2.2.1, s4.2.2.2.2.2.2.2.1, s4.2.2.2.2.2.2.2.2)
abbrev rm_X5_deliverRound : Room := { frames := 5, cells := 0, slots := 0, locals := 125 }
set_option maxRecDepth 100000 in
set_option maxHeartbeats 4000000 in
theorem k_X5_deliverRound (l : Launch) (D : va_G) (cI cZ cK : ClassId) (N : Nat) (a0 a1 a2 a3 a5 a6 a7 a8 a9 a10 a4 : Nat) (rn : Int32) (re : Int32) (rh : Int32) (ra : Int32) (rl : Int32) (rf : Int32) (wz : Int32) (tm : Int32) (lt : Int32) (dl : ar) (hp : ar) (gs : ar) (md : ar) (ct : ar) (xp : ar) (wn : ar) (R : Int32 × Int32 × Int32 × ar × ar × ar × ar × ar × ar) (h : f_X5_deliverRound N rn re rh ra rl rf dl hp gs md ct xp wn wz tm = some R) : Mu l D cI cZ cK yX5_deliverRound cX5_deliverRound 4 (some .int) rm_X5_deliverRound [.ref a0] [(a0, .inr (5, [.ref a1, .ref a2])), (a1, .inr (7, [.int rn, .int re, .int rh, .int ra, .int rl, .int rf])), (a2, .inr (1, [.ref a3, .ref a5, .ref a6, .ref a7, .ref a8, .ref a9, .ref a10, .int wz, .int tm])), (a3, .inr (3, [.ref a4, .int lt])), (a4, .inl (cI, 36, .inl dl)), (a5, .inl (cI, 36, .inl hp)), (a6, .inl (cI, 216, .inl gs)), (a7, .inl (cI, 216, .inl md)), (a8, .inl (cI, 6, .inl ct)), (a9, .inl (cI, 6, .inl xp)), (a10, .inl (cI, 101, .inl wn))] (some (.int R.1)) [(a0, .inr (5, [.ref a1, .ref a2])), (a1, .inr (7, [.int rn, .int re, .int rh, .int ra, .int rl, .int rf])), (a2, .inr (1, [.ref a3, .ref a5, .ref a6, .ref a7, .ref a8, .ref a9, .ref a10, .int R.2.1, .int R.2.2.1])), (a3, .inr (3, [.ref a4, .int lt])), (a4, .inl (cI, 36, .inl dl)), (a5, .inl (cI, 36, .inl R.2.2.2.1)), (a6, .inl (cI, 216, .inl R.2.2.2.2.1)), (a7, .inl (cI, 216, .inl R.2.2.2.2.2.1)), (a8, .inl (cI, 6, .inl R.2.2.2.2.2.2.1)), (a9, .inl (cI, 6, .inl R.2.2.2.2.2.2.2.1)), (a10, .inl (cI, 101, .inl R.2.2.2.2.2.2.2.2))] := by
  refine mi_of (by decide) (vp_nar_int _) (Nat.le_of_ble_eq_true rfl) ?_
  intro p e s m args below meth c Q A ls hx hb hml hown hk hA w hret hl
  have hl : lv_has ls 4 [(0, .ref a0)] := hl
  obtain ⟨C0, hC0, h⟩ := sat_top h
  unfold f_X5_deliverRound at h
  refine lv_iconst (v := 0) hx hb dX5_deliverRound_0 (by decide) ?_
  refine lv_istore_n (lv' := [(1, .int 0), (0, .ref a0)]) hx hb dX5_deliverRound_1 rfl hl (by decide) rfl (fun ls hl => ?_)
  refine lv_iconst (v := 0) hx hb dX5_deliverRound_2 (by decide) ?_
  refine lv_istore_n (lv' := [(2, .int 0), (1, .int 0), (0, .ref a0)]) hx hb dX5_deliverRound_3 rfl hl (by decide) rfl (fun ls hl => ?_)
  obtain ⟨T4, hT4, h⟩ := sat_reg h
  have E4 : ∀ (e1_11 : Int32) (wz_12 : Int32) (tm_13 : Int32) (hp_14 : ar) (gs_15 : ar) (md_16 : ar) (ct_17 : ar) (xp_18 : ar) (wn_19 : ar) (H : Heap) (locs : List Loc) (ls : Array Slot), T4 (e1_11, wz_12, tm_13, hp_14, gs_15, md_16, ct_17, xp_18, wn_19) → wd D A s.heap H locs [(a0, .inr (5, [.ref a1, .ref a2])), (a1, .inr (7, [.int rn, .int re, .int rh, .int ra, .int rl, .int rf])), (a2, .inr (1, [.ref a3, .ref a5, .ref a6, .ref a7, .ref a8, .ref a9, .ref a10, .int wz_12, .int tm_13])), (a3, .inr (3, [.ref a4, .int lt])), (a4, .inl (cI, 36, .inl dl)), (a5, .inl (cI, 36, .inl hp_14)), (a6, .inl (cI, 216, .inl gs_15)), (a7, .inl (cI, 216, .inl md_16)), (a8, .inl (cI, 6, .inl ct_17)), (a9, .inl (cI, 6, .inl xp_18)), (a10, .inl (cI, 101, .inl wn_19))] → lv_has ls 4 [(1, .int e1_11)] → W p l e rm_X5_deliverRound s m args below meth c H locs 0 0 Q (F0 m 59 ls []) := by
    intro e1_11 wz_12 tm_13 hp_14 gs_15 md_16 ct_17 xp_18 wn_19 H locs ls h w hl
    have h := hT4 _ h
    dsimp only at h
    refine lv_iload_n hx hb dX5_deliverRound_59 rfl (lv_at hl 0 rfl) ?_
    have hR := hC0 _ (sat_some h)
    subst hR
    exact hret _ _ _ _ w dX5_deliverRound_60
  have L4 : ∀ (n : Nat) (x1_4 : Int32) (x2_4 : Int32) (wz_4 : Int32) (tm_4 : Int32) (hp_4 : ar) (gs_4 : ar) (md_4 : ar) (ct_4 : ar) (xp_4 : ar) (wn_4 : ar) (H : Heap) (locs : List Loc) (ls : Array Slot), sat (f_X5_deliverRound_L4 rn re rh ra rl rf dl N n x1_4 x2_4 wz_4 tm_4 hp_4 gs_4 md_4 ct_4 xp_4 wn_4) T4 → wd D A s.heap H locs [(a0, .inr (5, [.ref a1, .ref a2])), (a1, .inr (7, [.int rn, .int re, .int rh, .int ra, .int rl, .int rf])), (a2, .inr (1, [.ref a3, .ref a5, .ref a6, .ref a7, .ref a8, .ref a9, .ref a10, .int wz_4, .int tm_4])), (a3, .inr (3, [.ref a4, .int lt])), (a4, .inl (cI, 36, .inl dl)), (a5, .inl (cI, 36, .inl hp_4)), (a6, .inl (cI, 216, .inl gs_4)), (a7, .inl (cI, 216, .inl md_4)), (a8, .inl (cI, 6, .inl ct_4)), (a9, .inl (cI, 6, .inl xp_4)), (a10, .inl (cI, 101, .inl wn_4))] → lv_has ls 4 [(0, .ref a0), (1, .int x1_4), (2, .int x2_4)] → W p l e rm_X5_deliverRound s m args below meth c H locs 0 0 Q (F0 m 4 ls []) := by
    intro n
    induction n with
    | zero =>
      intro x1_4 x2_4 wz_4 tm_4 hp_4 gs_4 md_4 ct_4 xp_4 wn_4 H locs ls h
      rw [f_X5_deliverRound_L4] at h
      exact (sat_none h).elim
    | succ n ih =>
      intro x1_4 x2_4 wz_4 tm_4 hp_4 gs_4 md_4 ct_4 xp_4 wn_4 H locs ls h w hl
      rw [f_X5_deliverRound_L4] at h
      refine lv_iload_n hx hb dX5_deliverRound_4 rfl (lv_at hl 2 rfl) ?_
      refine lv_aload_n hx hb dX5_deliverRound_5 rfl (lv_at hl 0 rfl) ?_
      refine gf_X5_9 hx hb hown hk w.1 0 rfl rfl dX5_deliverRound_6 ?_
      refine gf_X5_52 hx hb hown hk w.1 1 rfl rfl dX5_deliverRound_9 ?_
      refine lv_icmp_ge (tgt := 59) hx hb dX5_deliverRound_12 (by decide) (fun c12 => ?_) (fun c12 => ?_)
      · have h := sat_t c12 h
        exact E4 x1_4 wz_4 tm_4 hp_4 gs_4 md_4 ct_4 xp_4 wn_4 _ _ _ (sat_some h) w (lv_sub hl [1] rfl)
      · have h := sat_f c12 h
        refine lv_iconst (v := 0) hx hb dX5_deliverRound_15 (by decide) ?_
        refine lv_istore_n (lv' := [(3, .int 0), (0, .ref a0), (1, .int x1_4), (2, .int x2_4)]) hx hb dX5_deliverRound_16 rfl hl (by decide) rfl (fun ls hl => ?_)
        obtain ⟨T17, hT17, h⟩ := sat_reg h
        have E17 : ∀ (e1_2 : Int32) (wz_3 : Int32) (tm_4 : Int32) (hp_5 : ar) (gs_6 : ar) (md_7 : ar) (ct_8 : ar) (xp_9 : ar) (wn_10 : ar) (H : Heap) (locs : List Loc) (ls : Array Slot), T17 (e1_2, wz_3, tm_4, hp_5, gs_6, md_7, ct_8, xp_9, wn_10) → wd D A s.heap H locs [(a0, .inr (5, [.ref a1, .ref a2])), (a1, .inr (7, [.int rn, .int re, .int rh, .int ra, .int rl, .int rf])), (a2, .inr (1, [.ref a3, .ref a5, .ref a6, .ref a7, .ref a8, .ref a9, .ref a10, .int wz_3, .int tm_4])), (a3, .inr (3, [.ref a4, .int lt])), (a4, .inl (cI, 36, .inl dl)), (a5, .inl (cI, 36, .inl hp_5)), (a6, .inl (cI, 216, .inl gs_6)), (a7, .inl (cI, 216, .inl md_7)), (a8, .inl (cI, 6, .inl ct_8)), (a9, .inl (cI, 6, .inl xp_9)), (a10, .inl (cI, 101, .inl wn_10))] → lv_has ls 4 [(0, .ref a0), (1, .int e1_2), (2, .int x2_4)] → W p l e rm_X5_deliverRound s m args below meth c H locs 0 0 Q (F0 m 53 ls []) := by
          intro e1_2 wz_3 tm_4 hp_5 gs_6 md_7 ct_8 xp_9 wn_10 H locs ls h w hl
          have h := hT17 _ h
          dsimp only at h
          refine lv_iinc (v := x2_4 + 1) (lv' := [(2, .int (x2_4 + 1)), (0, .ref a0), (1, .int e1_2)]) hx hb dX5_deliverRound_53 hl (k := 2) rfl (congrArg (fun z => x2_4 + z) (by decide)) (by decide) rfl (fun ls hl => ?_)
          refine lv_goto (tgt := 4) hx hb dX5_deliverRound_56 (by decide) ?_
          exact ih e1_2 (x2_4 + 1) wz_3 tm_4 hp_5 gs_6 md_7 ct_8 xp_9 wn_10 _ _ _ h w (lv_sub hl [1, 2, 0] rfl)
        have L17 : ∀ (n : Nat) (x1_17 : Int32) (x3_17 : Int32) (wz_17 : Int32) (tm_17 : Int32) (hp_17 : ar) (gs_17 : ar) (md_17 : ar) (ct_17 : ar) (xp_17 : ar) (wn_17 : ar) (H : Heap) (locs : List Loc) (ls : Array Slot), sat (f_X5_deliverRound_L17 rn re rh ra rl rf dl N x2_4 n x1_17 x3_17 wz_17 tm_17 hp_17 gs_17 md_17 ct_17 xp_17 wn_17) T17 → wd D A s.heap H locs [(a0, .inr (5, [.ref a1, .ref a2])), (a1, .inr (7, [.int rn, .int re, .int rh, .int ra, .int rl, .int rf])), (a2, .inr (1, [.ref a3, .ref a5, .ref a6, .ref a7, .ref a8, .ref a9, .ref a10, .int wz_17, .int tm_17])), (a3, .inr (3, [.ref a4, .int lt])), (a4, .inl (cI, 36, .inl dl)), (a5, .inl (cI, 36, .inl hp_17)), (a6, .inl (cI, 216, .inl gs_17)), (a7, .inl (cI, 216, .inl md_17)), (a8, .inl (cI, 6, .inl ct_17)), (a9, .inl (cI, 6, .inl xp_17)), (a10, .inl (cI, 101, .inl wn_17))] → lv_has ls 4 [(0, .ref a0), (1, .int x1_17), (2, .int x2_4), (3, .int x3_17)] → W p l e rm_X5_deliverRound s m args below meth c H locs 0 0 Q (F0 m 17 ls []) := by
          intro n
          induction n with
          | zero =>
            intro x1_17 x3_17 wz_17 tm_17 hp_17 gs_17 md_17 ct_17 xp_17 wn_17 H locs ls h
            rw [f_X5_deliverRound_L17] at h
            exact (sat_none h).elim
          | succ n ih =>
            intro x1_17 x3_17 wz_17 tm_17 hp_17 gs_17 md_17 ct_17 xp_17 wn_17 H locs ls h w hl
            rw [f_X5_deliverRound_L17] at h
            refine lv_iload_n hx hb dX5_deliverRound_17 rfl (lv_at hl 3 rfl) ?_
            refine lv_aload_n hx hb dX5_deliverRound_18 rfl (lv_at hl 0 rfl) ?_
            refine gf_X5_9 hx hb hown hk w.1 0 rfl rfl dX5_deliverRound_19 ?_
            refine gf_X5_52 hx hb hown hk w.1 1 rfl rfl dX5_deliverRound_22 ?_
            refine lv_icmp_ge (tgt := 53) hx hb dX5_deliverRound_25 (by decide) (fun c25 => ?_) (fun c25 => ?_)
            · have h := sat_t c25 h
              exact E17 x1_17 wz_17 tm_17 hp_17 gs_17 md_17 ct_17 xp_17 wn_17 _ _ _ (sat_some h) w (lv_sub hl [0, 1, 2] rfl)
            · have h := sat_f c25 h
              refine lv_iload_n hx hb dX5_deliverRound_28 rfl (lv_at hl 2 rfl) ?_
              refine lv_iload_n hx hb dX5_deliverRound_29 rfl (lv_at hl 3 rfl) ?_
              refine lv_icmp_eq (tgt := 47) hx hb dX5_deliverRound_30 (by decide) (fun c30 => ?_) (fun c30 => ?_)
              · have h := sat_t c30 h
                refine lv_iinc (v := x3_17 + 1) (lv' := [(3, .int (x3_17 + 1)), (0, .ref a0), (1, .int x1_17), (2, .int x2_4)]) hx hb dX5_deliverRound_47 hl (k := 3) rfl (congrArg (fun z => x3_17 + z) (by decide)) (by decide) rfl (fun ls hl => ?_)
                refine lv_goto (tgt := 17) hx hb dX5_deliverRound_50 (by decide) ?_
                exact ih x1_17 (x3_17 + 1) wz_17 tm_17 hp_17 gs_17 md_17 ct_17 xp_17 wn_17 _ _ _ h w (lv_sub hl [1, 2, 3, 0] rfl)
              · have h := sat_f c30 h
                refine lv_aload_n hx hb dX5_deliverRound_33 rfl (lv_at hl 0 rfl) ?_
                refine lv_iload_n hx hb dX5_deliverRound_34 rfl (lv_at hl 2 rfl) ?_
                refine lv_iload_n hx hb dX5_deliverRound_35 rfl (lv_at hl 3 rfl) ?_
                obtain ⟨r_1, e_1, h⟩ := sat_bind h
                refine cMV (rest := []) (wr := []) (ws' := [(a0, .inr (5, [.ref a1, .ref a2])), (a1, .inr (7, [.int rn, .int re, .int rh, .int ra, .int rl, .int rf])), (a2, .inr (1, [.ref a3, .ref a5, .ref a6, .ref a7, .ref a8, .ref a9, .ref a10, .int r_1.2.1, .int r_1.2.2.1])), (a3, .inr (3, [.ref a4, .int lt])), (a4, .inl (cI, 36, .inl dl)), (a5, .inl (cI, 36, .inl r_1.2.2.2.1)), (a6, .inl (cI, 216, .inl r_1.2.2.2.2.1)), (a7, .inl (cI, 216, .inl r_1.2.2.2.2.2.1)), (a8, .inl (cI, 6, .inl r_1.2.2.2.2.2.2.1)), (a9, .inl (cI, 6, .inl r_1.2.2.2.2.2.2.2.1)), (a10, .inl (cI, 101, .inl r_1.2.2.2.2.2.2.2.2))]) hx hb hml hown hk w hA (k_X5_deliver l D cI cZ cK N a0 a1 a2 a3 a5 a6 a7 a8 a9 a10 a4 rn re rh ra rl rf wz_17 tm_17 lt dl hp_17 gs_17 md_17 ct_17 xp_17 wn_17 x2_4 x3_17 r_1 e_1) (me_X5_deliver hk.2.1) (mi_X5_deliver hk.2.1) (ml_X5_121 hk.2.1) ((pmn 11 [0, 1, 2, 3, 4, 5, 6, 7, 8, 9, 10] rfl rfl (by decide))) ((pmn 11 [0, 1, 2, 3, 4, 5, 6, 7, 8, 9, 10] rfl rfl (by decide))) 0 rfl rfl rfl hl.1 rfl rfl (Nat.le_of_ble_eq_true rfl) ⟨rfl, rfl, Nat.le_of_ble_eq_true rfl, Nat.le_of_ble_eq_true rfl, Nat.zero_le _, Nat.zero_le _⟩ dX5_deliverRound_36 (fun H locs w => ?_)
                refine W.eq (g2 := F0 m 39 ls [.int r_1.1]) rfl ?_
                refine lv_bipush (v := (-9)) hx hb dX5_deliverRound_39 (by decide) ?_
                refine lv_icmp_eq (tgt := 47) hx hb dX5_deliverRound_41 (by decide) (fun c41 => ?_) (fun c41 => ?_)
                · have h := sat_t c41 h
                  refine lv_iinc (v := x3_17 + 1) (lv' := [(3, .int (x3_17 + 1)), (0, .ref a0), (1, .int x1_17), (2, .int x2_4)]) hx hb dX5_deliverRound_47 hl (k := 3) rfl (congrArg (fun z => x3_17 + z) (by decide)) (by decide) rfl (fun ls hl => ?_)
                  refine lv_goto (tgt := 17) hx hb dX5_deliverRound_50 (by decide) ?_
                  exact ih x1_17 (x3_17 + 1) r_1.2.1 r_1.2.2.1 r_1.2.2.2.1 r_1.2.2.2.2.1 r_1.2.2.2.2.2.1 r_1.2.2.2.2.2.2.1 r_1.2.2.2.2.2.2.2.1 r_1.2.2.2.2.2.2.2.2 _ _ _ h w (lv_sub hl [1, 2, 3, 0] rfl)
                · have h := sat_f c41 h
                  refine lv_iinc (v := x1_17 + 1) (lv' := [(1, .int (x1_17 + 1)), (0, .ref a0), (2, .int x2_4), (3, .int x3_17)]) hx hb dX5_deliverRound_44 hl (k := 1) rfl (congrArg (fun z => x1_17 + z) (by decide)) (by decide) rfl (fun ls hl => ?_)
                  refine lv_iinc (v := x3_17 + 1) (lv' := [(3, .int (x3_17 + 1)), (1, .int (x1_17 + 1)), (0, .ref a0), (2, .int x2_4)]) hx hb dX5_deliverRound_47 hl (k := 3) rfl (congrArg (fun z => x3_17 + z) (by decide)) (by decide) rfl (fun ls hl => ?_)
                  refine lv_goto (tgt := 17) hx hb dX5_deliverRound_50 (by decide) ?_
                  exact ih (x1_17 + 1) (x3_17 + 1) r_1.2.1 r_1.2.2.1 r_1.2.2.2.1 r_1.2.2.2.2.1 r_1.2.2.2.2.2.1 r_1.2.2.2.2.2.2.1 r_1.2.2.2.2.2.2.2.1 r_1.2.2.2.2.2.2.2.2 _ _ _ h w (lv_sub hl [2, 1, 3, 0] rfl)
        exact L17 N x1_4 0 wz_4 tm_4 hp_4 gs_4 md_4 ct_4 xp_4 wn_4 _ _ _ h w (lv_sub hl [1, 2, 3, 0] rfl)
  exact L4 N 0 0 wz tm hp gs md ct xp wn _ _ _ h w (lv_sub hl [2, 1, 0] rfl)
