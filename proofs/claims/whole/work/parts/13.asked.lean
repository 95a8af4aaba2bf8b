def f_X11_isNode (rn : Int32) (x1 : Int32) : Option (Bool) := if x1 < 0 then some false else if rn ≤ x1 then some false else some true
abbrev rm_X11_isNode : Room := { frames := 0, cells := 0, slots := 0, locals := 0 }
set_option maxRecDepth 100000 in
set_option maxHeartbeats 4000000 in
theorem k_X11_isNode (l : Launch) (D : va_G) (cI cZ cK : ClassId) (a0 a1 a3 a7 a8 a17 a18 a20 a23 a25 a27 : Nat) (rn : Int32) (re : Int32) (rh : Int32) (ra : Int32) (rl : Int32) (rf : Int32) (x1 : Int32) (R : Bool) (h : f_X11_isNode rn x1 = some R) : Rd l D cI cZ cK yX11_isNode cX11_isNode 2 (some .boolean) rm_X11_isNode [.ref a0, .int x1] [(a0, .inr (11, [.ref a1, .ref a3, .ref a7, .ref a8, .ref a17, .ref a18, .ref a20, .ref a23, .ref a25, .ref a27])), (a7, .inr (7, [.int rn, .int re, .int rh, .int ra, .int rl, .int rf]))] (b2i R) := by
  refine rd_of (by decide) (nar_b _) (Nat.le_of_ble_eq_true rfl) ?_
  intro p e s m args below meth c Q ls hx hb hml hown hk hP hret hl
  have hl : lv_has ls 2 [(0, .ref a0), (1, .int x1)] := hl
  obtain ⟨C0, hC0, h⟩ := sat_top h
  unfold f_X11_isNode at h
  refine lv_iload_n hx hb dX11_isNode_0 rfl (lv_at hl 1 rfl) ?_
  refine lv_if_lt (tgt := 19) hx hb dX11_isNode_1 (by decide) (fun c1 => ?_) (fun c1 => ?_)
  · have h := sat_t c1 h
    refine lv_iconst (v := 0) hx hb dX11_isNode_19 (by decide) ?_
    have hR := hC0 _ (sat_some h)
    subst hR
    exact hret _ _ dX11_isNode_20
  · have h := sat_f c1 h
    refine lv_iload_n hx hb dX11_isNode_4 rfl (lv_at hl 1 rfl) ?_
    refine lv_aload_n hx hb dX11_isNode_5 rfl (lv_at hl 0 rfl) ?_
    refine gf_X11_28 hx hb hown hk hP 0 rfl rfl dX11_isNode_6 ?_
    refine gf_X11_209 hx hb hown hk hP 1 rfl rfl dX11_isNode_9 ?_
    refine lv_icmp_ge (tgt := 19) hx hb dX11_isNode_12 (by decide) (fun c12 => ?_) (fun c12 => ?_)
    · have h := sat_t c12 h
      refine lv_iconst (v := 0) hx hb dX11_isNode_19 (by decide) ?_
      have hR := hC0 _ (sat_some h)
      subst hR
      exact hret _ _ dX11_isNode_20
    · have h := sat_f c12 h
      refine lv_iconst (v := 1) hx hb dX11_isNode_15 (by decide) ?_
      refine lv_goto (tgt := 20) hx hb dX11_isNode_16 (by decide) ?_
      have hR := hC0 _ (sat_some h)
      subst hR
      exact hret _ _ dX11_isNode_20
def f_X11_areUnlike (rn : Int32) (x1 : Int32) (x2 : Int32) : Option (Bool) := Option.bind (f_X11_isNode rn x1) fun r_1 => if (b2i r_1) = 0 then some false else Option.bind (f_X11_isNode rn x2) fun r_2 => if (b2i r_2) = 0 then some false else if x1 = x2 then some false else some true
abbrev rm_X11_areUnlike : Room := { frames := 1, cells := 0, slots := 0, locals := 21 }
set_option maxRecDepth 100000 in
set_option maxHeartbeats 4000000 in
theorem k_X11_areUnlike (l : Launch) (D : va_G) (cI cZ cK : ClassId) (a0 a1 a3 a7 a8 a17 a18 a20 a23 a25 a27 : Nat) (rn : Int32) (re : Int32) (rh : Int32) (ra : Int32) (rl : Int32) (rf : Int32) (x1 : Int32) (x2 : Int32) (R : Bool) (h : f_X11_areUnlike rn x1 x2 = some R) : Rd l D cI cZ cK yX11_areUnlike cX11_areUnlike 3 (some .boolean) rm_X11_areUnlike [.ref a0, .int x1, .int x2] [(a0, .inr (11, [.ref a1, .ref a3, .ref a7, .ref a8, .ref a17, .ref a18, .ref a20, .ref a23, .ref a25, .ref a27])), (a7, .inr (7, [.int rn, .int re, .int rh, .int ra, .int rl, .int rf]))] (b2i R) := by
  refine rd_of (by decide) (nar_b _) (Nat.le_of_ble_eq_true rfl) ?_
  intro p e s m args below meth c Q ls hx hb hml hown hk hP hret hl
  have hl : lv_has ls 3 [(0, .ref a0), (1, .int x1), (2, .int x2)] := hl
  obtain ⟨C0, hC0, h⟩ := sat_top h
  unfold f_X11_areUnlike at h
  refine lv_aload_n hx hb dX11_areUnlike_0 rfl (lv_at hl 0 rfl) ?_
  refine lv_iload_n hx hb dX11_areUnlike_1 rfl (lv_at hl 1 rfl) ?_
  obtain ⟨r_1, e_1, h⟩ := sat_bind h
  refine cRV (rest := []) hx hb hml hown hk (k_X11_isNode l D cI cZ cK a0 a1 a3 a7 a8 a17 a18 a20 a23 a25 a27 rn re rh ra rl rf x1 r_1 e_1) (me_X11_isNode hk.2.1) (mi_X11_isNode hk.2.1) (ml_X11_181 hk.2.1) (hP.sub [0, 1] rfl) 0 rfl rfl rfl hl.1 rfl rfl (Nat.le_of_ble_eq_true rfl) ⟨rfl, rfl, Nat.le_of_ble_eq_true rfl, Nat.le_of_ble_eq_true rfl, Nat.zero_le _, Nat.zero_le _⟩ dX11_areUnlike_2 ?_
  refine lv_if_eq (tgt := 25) hx hb dX11_areUnlike_5 (by decide) (fun c5 => ?_) (fun c5 => ?_)
  · have h := sat_t c5 h
    refine lv_iconst (v := 0) hx hb dX11_areUnlike_25 (by decide) ?_
    have hR := hC0 _ (sat_some h)
    subst hR
    exact hret _ _ dX11_areUnlike_26
  · have h := sat_f c5 h
    refine lv_aload_n hx hb dX11_areUnlike_8 rfl (lv_at hl 0 rfl) ?_
    refine lv_iload_n hx hb dX11_areUnlike_9 rfl (lv_at hl 2 rfl) ?_
    obtain ⟨r_2, e_2, h⟩ := sat_bind h
    refine cRV (rest := []) hx hb hml hown hk (k_X11_isNode l D cI cZ cK a0 a1 a3 a7 a8 a17 a18 a20 a23 a25 a27 rn re rh ra rl rf x2 r_2 e_2) (me_X11_isNode hk.2.1) (mi_X11_isNode hk.2.1) (ml_X11_181 hk.2.1) (hP.sub [0, 1] rfl) 0 rfl rfl rfl hl.1 rfl rfl (Nat.le_of_ble_eq_true rfl) ⟨rfl, rfl, Nat.le_of_ble_eq_true rfl, Nat.le_of_ble_eq_true rfl, Nat.zero_le _, Nat.zero_le _⟩ dX11_areUnlike_10 ?_
    refine lv_if_eq (tgt := 25) hx hb dX11_areUnlike_13 (by decide) (fun c13 => ?_) (fun c13 => ?_)
    · have h := sat_t c13 h
      refine lv_iconst (v := 0) hx hb dX11_areUnlike_25 (by decide) ?_
      have hR := hC0 _ (sat_some h)
      subst hR
      exact hret _ _ dX11_areUnlike_26
    · have h := sat_f c13 h
      refine lv_iload_n hx hb dX11_areUnlike_16 rfl (lv_at hl 1 rfl) ?_
      refine lv_iload_n hx hb dX11_areUnlike_17 rfl (lv_at hl 2 rfl) ?_
      refine lv_icmp_eq (tgt := 25) hx hb dX11_areUnlike_18 (by decide) (fun c18 => ?_) (fun c18 => ?_)
      · have h := sat_t c18 h
        refine lv_iconst (v := 0) hx hb dX11_areUnlike_25 (by decide) ?_
        have hR := hC0 _ (sat_some h)
        subst hR
        exact hret _ _ dX11_areUnlike_26
      · have h := sat_f c18 h
        refine lv_iconst (v := 1) hx hb dX11_areUnlike_21 (by decide) ?_
        refine lv_goto (tgt := 26) hx hb dX11_areUnlike_22 (by decide) ?_
        have hR := hC0 _ (sat_some h)
        subst hR
        exact hret _ _ dX11_areUnlike_26
def f_X11_isDelay (x0 : Int32) : Option (Bool) := if x0 < 1 then some false else if 9 < x0 then some false else some true
abbrev rm_X11_isDelay : Room := { frames := 0, cells := 0, slots := 0, locals := 0 }
set_option maxRecDepth 100000 in
set_option maxHeartbeats 4000000 in
theorem k_X11_isDelay (l : Launch) (D : va_G) (cI cZ cK : ClassId) (x0 : Int32) (R : Bool) (h : f_X11_isDelay x0 = some R) : Rd l D cI cZ cK yX11_isDelay cX11_isDelay 1 (some .boolean) rm_X11_isDelay [.int x0] [] (b2i R) := by
  refine rd_of (by decide) (nar_b _) (Nat.le_of_ble_eq_true rfl) ?_
  intro p e s m args below meth c Q ls hx hb hml hown hk hP hret hl
  have hl : lv_has ls 1 [(0, .int x0)] := hl
  obtain ⟨C0, hC0, h⟩ := sat_top h
  unfold f_X11_isDelay at h
  refine lv_iload_n hx hb dX11_isDelay_0 rfl (lv_at hl 0 rfl) ?_
  refine lv_iconst (v := 1) hx hb dX11_isDelay_1 (by decide) ?_
  refine lv_icmp_lt (tgt := 15) hx hb dX11_isDelay_2 (by decide) (fun c2 => ?_) (fun c2 => ?_)
  · have h := sat_t c2 h
    refine lv_iconst (v := 0) hx hb dX11_isDelay_15 (by decide) ?_
    have hR := hC0 _ (sat_some h)
    subst hR
    exact hret _ _ dX11_isDelay_16
  · have h := sat_f c2 h
    refine lv_iload_n hx hb dX11_isDelay_5 rfl (lv_at hl 0 rfl) ?_
    refine lv_bipush (v := 9) hx hb dX11_isDelay_6 (by decide) ?_
    refine lv_icmp_gt (tgt := 15) hx hb dX11_isDelay_8 (by decide) (fun c8 => ?_) (fun c8 => ?_)
    · have h := sat_t c8 h
      refine lv_iconst (v := 0) hx hb dX11_isDelay_15 (by decide) ?_
      have hR := hC0 _ (sat_some h)
      subst hR
      exact hret _ _ dX11_isDelay_16
    · have h := sat_f c8 h
      refine lv_iconst (v := 1) hx hb dX11_isDelay_11 (by decide) ?_
      refine lv_goto (tgt := 16) hx hb dX11_isDelay_12 (by decide) ?_
      have hR := hC0 _ (sat_some h)
      subst hR
      exact hret _ _ dX11_isDelay_16
def f_X11_isImage (x0 : Int32) : Option (Bool) := if x0 < 0 then some false else if 2 ≤ x0 then some false else some true
abbrev rm_X11_isImage : Room := { frames := 0, cells := 0, slots := 0, locals := 0 }
set_option maxRecDepth 100000 in
set_option maxHeartbeats 4000000 in
theorem k_X11_isImage (l : Launch) (D : va_G) (cI cZ cK : ClassId) (x0 : Int32) (R : Bool) (h : f_X11_isImage x0 = some R) : Rd l D cI cZ cK yX11_isImage cX11_isImage 1 (some .boolean) rm_X11_isImage [.int x0] [] (b2i R) := by
  refine rd_of (by decide) (nar_b _) (Nat.le_of_ble_eq_true rfl) ?_
  intro p e s m args below meth c Q ls hx hb hml hown hk hP hret hl
  have hl : lv_has ls 1 [(0, .int x0)] := hl
  obtain ⟨C0, hC0, h⟩ := sat_top h
  unfold f_X11_isImage at h
  refine lv_iload_n hx hb dX11_isImage_0 rfl (lv_at hl 0 rfl) ?_
  refine lv_if_lt (tgt := 13) hx hb dX11_isImage_1 (by decide) (fun c1 => ?_) (fun c1 => ?_)
  · have h := sat_t c1 h
    refine lv_iconst (v := 0) hx hb dX11_isImage_13 (by decide) ?_
    have hR := hC0 _ (sat_some h)
    subst hR
    exact hret _ _ dX11_isImage_14
  · have h := sat_f c1 h
    refine lv_iload_n hx hb dX11_isImage_4 rfl (lv_at hl 0 rfl) ?_
    refine lv_iconst (v := 2) hx hb dX11_isImage_5 (by decide) ?_
    refine lv_icmp_ge (tgt := 13) hx hb dX11_isImage_6 (by decide) (fun c6 => ?_) (fun c6 => ?_)
    · have h := sat_t c6 h
      refine lv_iconst (v := 0) hx hb dX11_isImage_13 (by decide) ?_
      have hR := hC0 _ (sat_some h)
      subst hR
      exact hret _ _ dX11_isImage_14
    · have h := sat_f c6 h
      refine lv_iconst (v := 1) hx hb dX11_isImage_9 (by decide) ?_
      refine lv_goto (tgt := 14) hx hb dX11_isImage_10 (by decide) ?_
      have hR := hC0 _ (sat_some h)
      subst hR
      exact hret _ _ dX11_isImage_14
def f_X11_refusalOfGuess (rn : Int32) (dl : ar) (x1 : Int32) (x2 : Int32) (x3 : Int32) : Option (Int32) := Option.bind (f_X11_areUnlike rn x1 x2) fun r_1 => if (b2i r_1) = 0 then some (-1) else Option.bind (f_X11_isNode rn x3) fun r_2 => if (b2i r_2) = 0 then some (-1) else Option.bind (f_X3_delayOf dl x1 x3) fun r_3 => if r_3 ≤ 0 then some (-2) else some 0
abbrev rm_X11_refusalOfGuess : Room := { frames := 2, cells := 0, slots := 0, locals := 43 }
set_option maxRecDepth 100000 in
set_option maxHeartbeats 4000000 in
theorem k_X11_refusalOfGuess (l : Launch) (D : va_G) (cI cZ cK : ClassId) (a0 a1 a3 a7 a8 a17 a18 a20 a23 a25 a27 a9 a11 a12 a13 a14 a15 a16 a10 : Nat) (rn : Int32) (re : Int32) (rh : Int32) (ra : Int32) (rl : Int32) (rf : Int32) (wz : Int32) (tm : Int32) (lt : Int32) (dl : ar) (x1 : Int32) (x2 : Int32) (x3 : Int32) (R : Int32) (h : f_X11_refusalOfGuess rn dl x1 x2 x3 = some R) : Rd l D cI cZ cK yX11_refusalOfGuess cX11_refusalOfGuess 4 (some .int) rm_X11_refusalOfGuess [.ref a0, .int x1, .int x2, .int x3] [(a0, .inr (11, [.ref a1, .ref a3, .ref a7, .ref a8, .ref a17, .ref a18, .ref a20, .ref a23, .ref a25, .ref a27])), (a7, .inr (7, [.int rn, .int re, .int rh, .int ra, .int rl, .int rf])), (a8, .inr (1, [.ref a9, .ref a11, .ref a12, .ref a13, .ref a14, .ref a15, .ref a16, .int wz, .int tm])), (a9, .inr (3, [.ref a10, .int lt])), (a10, .inl (cI, 36, .inl dl))] R := by
  refine rd_of (by decide) (vp_nar_int _) (Nat.le_of_ble_eq_true rfl) ?_
  intro p e s m args below meth c Q ls hx hb hml hown hk hP hret hl
  have hl : lv_has ls 4 [(0, .ref a0), (1, .int x1), (2, .int x2), (3, .int x3)] := hl
  obtain ⟨C0, hC0, h⟩ := sat_top h
  unfold f_X11_refusalOfGuess at h
  refine lv_aload_n hx hb dX11_refusalOfGuess_0 rfl (lv_at hl 0 rfl) ?_
  refine lv_iload_n hx hb dX11_refusalOfGuess_1 rfl (lv_at hl 1 rfl) ?_
  refine lv_iload_n hx hb dX11_refusalOfGuess_2 rfl (lv_at hl 2 rfl) ?_
  obtain ⟨r_1, e_1, h⟩ := sat_bind h
  refine cRV (rest := []) hx hb hml hown hk (k_X11_areUnlike l D cI cZ cK a0 a1 a3 a7 a8 a17 a18 a20 a23 a25 a27 rn re rh ra rl rf x1 x2 r_1 e_1) (me_X11_areUnlike hk.2.1) (mi_X11_areUnlike hk.2.1) (ml_X11_129 hk.2.1) (hP.sub [0, 1] rfl) 0 rfl rfl rfl hl.1 rfl rfl (Nat.le_of_ble_eq_true rfl) ⟨rfl, rfl, Nat.le_of_ble_eq_true rfl, Nat.le_of_ble_eq_true rfl, Nat.zero_le _, Nat.zero_le _⟩ dX11_refusalOfGuess_3 ?_
  refine lv_if_eq (tgt := 17) hx hb dX11_refusalOfGuess_6 (by decide) (fun c6 => ?_) (fun c6 => ?_)
  · have h := sat_t c6 h
    refine lv_iconst (v := (-1)) hx hb dX11_refusalOfGuess_17 (by decide) ?_
    have hR := hC0 _ (sat_some h)
    subst hR
    exact hret _ _ dX11_refusalOfGuess_18
  · have h := sat_f c6 h
    refine lv_aload_n hx hb dX11_refusalOfGuess_9 rfl (lv_at hl 0 rfl) ?_
    refine lv_iload_n hx hb dX11_refusalOfGuess_10 rfl (lv_at hl 3 rfl) ?_
    obtain ⟨r_2, e_2, h⟩ := sat_bind h
    refine cRV (rest := []) hx hb hml hown hk (k_X11_isNode l D cI cZ cK a0 a1 a3 a7 a8 a17 a18 a20 a23 a25 a27 rn re rh ra rl rf x3 r_2 e_2) (me_X11_isNode hk.2.1) (mi_X11_isNode hk.2.1) (ml_X11_181 hk.2.1) (hP.sub [0, 1] rfl) 0 rfl rfl rfl hl.1 rfl rfl (Nat.le_of_ble_eq_true rfl) ⟨rfl, rfl, Nat.le_of_ble_eq_true rfl, Nat.le_of_ble_eq_true rfl, Nat.zero_le _, Nat.zero_le _⟩ dX11_refusalOfGuess_11 ?_
    refine lv_if_ne (tgt := 19) hx hb dX11_refusalOfGuess_14 (by decide) (fun c14 => ?_) (fun c14 => ?_)
    · have h := sat_f c14 h
      refine lv_aload_n hx hb dX11_refusalOfGuess_19 rfl (lv_at hl 0 rfl) ?_
      refine gf_X11_35 hx hb hown hk hP 0 rfl rfl dX11_refusalOfGuess_20 ?_
      refine gf_X11_118 hx hb hown hk hP 2 rfl rfl dX11_refusalOfGuess_23 ?_
      refine lv_iload_n hx hb dX11_refusalOfGuess_26 rfl (lv_at hl 1 rfl) ?_
      refine lv_iload_n hx hb dX11_refusalOfGuess_27 rfl (lv_at hl 3 rfl) ?_
      obtain ⟨r_3, e_3, h⟩ := sat_bind h
      refine cRV (rest := []) hx hb hml hown hk (k_X3_delayOf l D cI cZ cK a9 a10 lt dl x1 x3 r_3 e_3) (me_X3_delayOf hk.2.1) (mi_X3_delayOf hk.2.1) (ml_X11_154 hk.2.1) (hP.sub [3, 4] rfl) 0 rfl rfl rfl hl.1 rfl rfl (Nat.le_of_ble_eq_true rfl) ⟨rfl, rfl, Nat.le_of_ble_eq_true rfl, Nat.le_of_ble_eq_true rfl, Nat.zero_le _, Nat.zero_le _⟩ dX11_refusalOfGuess_28 ?_
      refine lv_if_le (tgt := 38) hx hb dX11_refusalOfGuess_31 (by decide) (fun c31 => ?_) (fun c31 => ?_)
      · have h := sat_t c31 h
        refine lv_bipush (v := (-2)) hx hb dX11_refusalOfGuess_38 (by decide) ?_
        have hR := hC0 _ (sat_some h)
        subst hR
        exact hret _ _ dX11_refusalOfGuess_40
      · have h := sat_f c31 h
        refine lv_iconst (v := 0) hx hb dX11_refusalOfGuess_34 (by decide) ?_
        refine lv_goto (tgt := 40) hx hb dX11_refusalOfGuess_35 (by decide) ?_
        have hR := hC0 _ (sat_some h)
        subst hR
        exact hret _ _ dX11_refusalOfGuess_40
    · have h := sat_t c14 h
      refine lv_iconst (v := (-1)) hx hb dX11_refusalOfGuess_17 (by decide) ?_
      have hR := hC0 _ (sat_some h)
      subst hR
      exact hret _ _ dX11_refusalOfGuess_18
def f_X11_hurtWithout (N : Nat) (rn : Int32) (dl : ar) (sm : ar) (x1 : Int32) : Option (Int32 × Int32 × ar) := Option.bind (f_X2_measure N sm dl rn x1) fun r_1 => Option.bind (f_X2_sumOfAll N r_1.2 r_1.1) fun r_2 => some (r_2, r_1.1, r_1.2)
abbrev rm_X11_hurtWithout : Room := { frames := 4, cells := 0, slots := 0, locals := 95 }
set_option maxRecDepth 100000 in
set_option maxHeartbeats 4000000 in
theorem k_X11_hurtWithout (l : Launch) (D : va_G) (cI cZ cK : ClassId) (N : Nat) (a0 a1 a3 a7 a8 a17 a18 a20 a23 a25 a27 a9 a11 a12 a13 a14 a15 a16 a10 a26 : Nat) (rn : Int32) (re : Int32) (rh : Int32) (ra : Int32) (rl : Int32) (rf : Int32) (wz : Int32) (tm : Int32) (lt : Int32) (dl : ar) (sn : Int32) (sm : ar) (x1 : Int32) (R : Int32 × Int32 × ar) (h : f_X11_hurtWithout N rn dl sm x1 = some R) : Mu l D cI cZ cK yX11_hurtWithout cX11_hurtWithout 2 (some .int) rm_X11_hurtWithout [.ref a0, .int x1] [(a0, .inr (11, [.ref a1, .ref a3, .ref a7, .ref a8, .ref a17, .ref a18, .ref a20, .ref a23, .ref a25, .ref a27])), (a7, .inr (7, [.int rn, .int re, .int rh, .int ra, .int rl, .int rf])), (a8, .inr (1, [.ref a9, .ref a11, .ref a12, .ref a13, .ref a14, .ref a15, .ref a16, .int wz, .int tm])), (a9, .inr (3, [.ref a10, .int lt])), (a10, .inl (cI, 36, .inl dl)), (a25, .inr (2, [.ref a26, .int sn])), (a26, .inl (cI, 36, .inl sm))] (some (.int R.1)) [(a0, .inr (11, [.ref a1, .ref a3, .ref a7, .ref a8, .ref a17, .ref a18, .ref a20, .ref a23, .ref a25, .ref a27])), (a7, .inr (7, [.int rn, .int re, .int rh, .int ra, .int rl, .int rf])), (a8, .inr (1, [.ref a9, .ref a11, .ref a12, .ref a13, .ref a14, .ref a15, .ref a16, .int wz, .int tm])), (a9, .inr (3, [.ref a10, .int lt])), (a10, .inl (cI, 36, .inl dl)), (a25, .inr (2, [.ref a26, .int R.2.1])), (a26, .inl (cI, 36, .inl R.2.2))] := by
  refine mi_of (by decide) (vp_nar_int _) (Nat.le_of_ble_eq_true rfl) ?_
  intro p e s m args below meth c Q A ls hx hb hml hown hk hA w hret hl
  have hl : lv_has ls 2 [(0, .ref a0), (1, .int x1)] := hl
  obtain ⟨C0, hC0, h⟩ := sat_top h
  unfold f_X11_hurtWithout at h
  refine lv_aload_n hx hb dX11_hurtWithout_0 rfl (lv_at hl 0 rfl) ?_
  refine gf_X11_74 hx hb hown hk w.1 0 rfl rfl dX11_hurtWithout_1 ?_
  refine lv_aload_n hx hb dX11_hurtWithout_4 rfl (lv_at hl 0 rfl) ?_
  refine gf_X11_35 hx hb hown hk w.1 0 rfl rfl dX11_hurtWithout_5 ?_
  refine gf_X11_118 hx hb hown hk w.1 2 rfl rfl dX11_hurtWithout_8 ?_
  refine lv_aload_n hx hb dX11_hurtWithout_11 rfl (lv_at hl 0 rfl) ?_
  refine gf_X11_28 hx hb hown hk w.1 0 rfl rfl dX11_hurtWithout_12 ?_
  refine gf_X11_209 hx hb hown hk w.1 1 rfl rfl dX11_hurtWithout_15 ?_
  refine lv_iload_n hx hb dX11_hurtWithout_18 rfl (lv_at hl 1 rfl) ?_
  obtain ⟨r_1, e_1, h⟩ := sat_bind h
  refine cMV (rest := []) (wr := [(a0, .inr (11, [.ref a1, .ref a3, .ref a7, .ref a8, .ref a17, .ref a18, .ref a20, .ref a23, .ref a25, .ref a27])), (a7, .inr (7, [.int rn, .int re, .int rh, .int ra, .int rl, .int rf])), (a8, .inr (1, [.ref a9, .ref a11, .ref a12, .ref a13, .ref a14, .ref a15, .ref a16, .int wz, .int tm]))]) (ws' := [(a0, .inr (11, [.ref a1, .ref a3, .ref a7, .ref a8, .ref a17, .ref a18, .ref a20, .ref a23, .ref a25, .ref a27])), (a7, .inr (7, [.int rn, .int re, .int rh, .int ra, .int rl, .int rf])), (a8, .inr (1, [.ref a9, .ref a11, .ref a12, .ref a13, .ref a14, .ref a15, .ref a16, .int wz, .int tm])), (a9, .inr (3, [.ref a10, .int lt])), (a10, .inl (cI, 36, .inl dl)), (a25, .inr (2, [.ref a26, .int r_1.1])), (a26, .inl (cI, 36, .inl r_1.2))]) hx hb hml hown hk w hA (k_X2_measure l D cI cZ cK N a25 a26 a9 a10 sn sm lt dl rn x1 r_1 e_1) (me_X2_measure hk.2.1) (mi_X2_measure hk.2.1) (ml_X11_211 hk.2.1) ((pmn 7 [5, 6, 3, 4, 0, 1, 2] rfl rfl (by decide))) ((pmn 7 [4, 5, 6, 2, 3, 0, 1] rfl rfl (by decide))) 0 rfl rfl rfl hl.1 rfl rfl (Nat.le_of_ble_eq_true rfl) ⟨rfl, rfl, Nat.le_of_ble_eq_true rfl, Nat.le_of_ble_eq_true rfl, Nat.zero_le _, Nat.zero_le _⟩ dX11_hurtWithout_19 (fun H locs w => ?_)
  refine W.eq (g2 := F0 m 22 ls []) rfl ?_
  refine lv_aload_n hx hb dX11_hurtWithout_22 rfl (lv_at hl 0 rfl) ?_
  refine gf_X11_74 hx hb hown hk w.1 0 rfl rfl dX11_hurtWithout_23 ?_
  obtain ⟨r_2, e_2, h⟩ := sat_bind h
  refine cRV (rest := []) hx hb hml hown hk (k_X2_sumOfAll l D cI cZ cK N a25 a26 r_1.1 r_1.2 r_2 e_2) (me_X2_sumOfAll hk.2.1) (mi_X2_sumOfAll hk.2.1) (ml_X11_261 hk.2.1) (w.1.sub [5, 6] rfl) 0 rfl rfl rfl hl.1 rfl rfl (Nat.le_of_ble_eq_true rfl) ⟨rfl, rfl, Nat.le_of_ble_eq_true rfl, Nat.le_of_ble_eq_true rfl, Nat.zero_le _, Nat.zero_le _⟩ dX11_hurtWithout_26 ?_
  have hR := hC0 _ (sat_some h)
  subst hR
  exact hret _ _ _ _ w dX11_hurtWithout_29
def f_X11_type (tx : ar) (tn : Int32) (x1 : Int32) : Option (Int32 × Int32 × ar) := if x1 < 0 then some ((-1), tn, tx) else if x1 ≤ 255 then Option.bind (f_X9_append tx tn x1) fun r_1 => if (b2i r_1.1) = 0 then some ((-3), r_1.2.1, r_1.2.2) else some (r_1.2.1, r_1.2.1, r_1.2.2) else some ((-1), tn, tx)
abbrev rm_X11_type : Room := { frames := 1, cells := 0, slots := 0, locals := 21 }
set_option maxRecDepth 100000 in
set_option maxHeartbeats 4000000 in
theorem k_X11_type (l : Launch) (D : va_G) (cI cZ cK : ClassId) (a0 a1 a3 a7 a8 a17 a18 a20 a23 a25 a27 a2 : Nat) (tn : Int32) (tx : ar) (x1 : Int32) (R : Int32 × Int32 × ar) (h : f_X11_type tx tn x1 = some R) : Mu l D cI cZ cK yX11_type cX11_type 2 (some .int) rm_X11_type [.ref a0, .int x1] [(a0, .inr (11, [.ref a1, .ref a3, .ref a7, .ref a8, .ref a17, .ref a18, .ref a20, .ref a23, .ref a25, .ref a27])), (a1, .inr (9, [.ref a2, .int tn])), (a2, .inl (cI, 120, .inl tx))] (some (.int R.1)) [(a0, .inr (11, [.ref a1, .ref a3, .ref a7, .ref a8, .ref a17, .ref a18, .ref a20, .ref a23, .ref a25, .ref a27])), (a1, .inr (9, [.ref a2, .int R.2.1])), (a2, .inl (cI, 120, .inl R.2.2))] := by
  refine mi_of (by decide) (vp_nar_int _) (Nat.le_of_ble_eq_true rfl) ?_
  intro p e s m args below meth c Q A ls hx hb hml hown hk hA w hret hl
  have hl : lv_has ls 2 [(0, .ref a0), (1, .int x1)] := hl
  obtain ⟨C0, hC0, h⟩ := sat_top h
  unfold f_X11_type at h
  refine lv_iload_n hx hb dX11_type_0 rfl (lv_at hl 1 rfl) ?_
  refine lv_if_lt (tgt := 11) hx hb dX11_type_1 (by decide) (fun c1 => ?_) (fun c1 => ?_)
  · have h := sat_t c1 h
    refine lv_iconst (v := (-1)) hx hb dX11_type_11 (by decide) ?_
    have hR := hC0 _ (sat_some h)
    subst hR
    exact hret _ _ _ _ w dX11_type_12
  · have h := sat_f c1 h
    refine lv_iload_n hx hb dX11_type_4 rfl (lv_at hl 1 rfl) ?_
    refine lv_sipush (v := 255) hx hb dX11_type_5 (by decide) ?_
    refine lv_icmp_le (tgt := 13) hx hb dX11_type_8 (by decide) (fun c8 => ?_) (fun c8 => ?_)
    · have h := sat_t c8 h
      refine lv_aload_n hx hb dX11_type_13 rfl (lv_at hl 0 rfl) ?_
      refine gf_X11_12 hx hb hown hk w.1 0 rfl rfl dX11_type_14 ?_
      refine lv_iload_n hx hb dX11_type_17 rfl (lv_at hl 1 rfl) ?_
      obtain ⟨r_1, e_1, h⟩ := sat_bind h
      refine cMV (rest := []) (wr := [(a0, .inr (11, [.ref a1, .ref a3, .ref a7, .ref a8, .ref a17, .ref a18, .ref a20, .ref a23, .ref a25, .ref a27]))]) (ws' := [(a0, .inr (11, [.ref a1, .ref a3, .ref a7, .ref a8, .ref a17, .ref a18, .ref a20, .ref a23, .ref a25, .ref a27])), (a1, .inr (9, [.ref a2, .int r_1.2.1])), (a2, .inl (cI, 120, .inl r_1.2.2))]) hx hb hml hown hk w hA (k_X9_append l D cI cZ cK a1 a2 tn tx x1 r_1 e_1) (me_X9_append hk.2.1) (mi_X9_append hk.2.1) (ml_X11_85 hk.2.1) ((pmn 3 [1, 2, 0] rfl rfl (by decide))) ((pmn 3 [2, 0, 1] rfl rfl (by decide))) 0 rfl rfl rfl hl.1 rfl rfl (Nat.le_of_ble_eq_true rfl) ⟨rfl, rfl, Nat.le_of_ble_eq_true rfl, Nat.le_of_ble_eq_true rfl, Nat.zero_le _, Nat.zero_le _⟩ dX11_type_18 (fun H locs w => ?_)
      refine W.eq (g2 := F0 m 21 ls [.int (b2i r_1.1)]) rfl ?_
      refine lv_if_eq (tgt := 34) hx hb dX11_type_21 (by decide) (fun c21 => ?_) (fun c21 => ?_)
      · have h := sat_t c21 h
        refine lv_bipush (v := (-3)) hx hb dX11_type_34 (by decide) ?_
        have hR := hC0 _ (sat_some h)
        subst hR
        exact hret _ _ _ _ w dX11_type_36
      · have h := sat_f c21 h
        refine lv_aload_n hx hb dX11_type_24 rfl (lv_at hl 0 rfl) ?_
        refine gf_X11_12 hx hb hown hk w.1 0 rfl rfl dX11_type_25 ?_
        refine gf_X11_89 hx hb hown hk w.1 1 rfl rfl dX11_type_28 ?_
        refine lv_goto (tgt := 36) hx hb dX11_type_31 (by decide) ?_
        have hR := hC0 _ (sat_some h)
        subst hR
        exact hret _ _ _ _ w dX11_type_36
    · have h := sat_f c8 h
      refine lv_iconst (v := (-1)) hx hb dX11_type_11 (by decide) ?_
      have hR := hC0 _ (sat_some h)
      subst hR
      exact hret _ _ _ _ w dX11_type_12
def f_X11_clear (tn : Int32) : Option (Int32 × Int32) := some (tn, 0)
abbrev rm_X11_clear : Room := { frames := 0, cells := 0, slots := 0, locals := 0 }
set_option maxRecDepth 100000 in
set_option maxHeartbeats 4000000 in
theorem k_X11_clear (l : Launch) (D : va_G) (cI cZ cK : ClassId) (a0 a1 a3 a7 a8 a17 a18 a20 a23 a25 a27 a2 : Nat) (tn : Int32) (R : Int32 × Int32) (h : f_X11_clear tn = some R) : Mu l D cI cZ cK yX11_clear cX11_clear 2 (some .int) rm_X11_clear [.ref a0] [(a0, .inr (11, [.ref a1, .ref a3, .ref a7, .ref a8, .ref a17, .ref a18, .ref a20, .ref a23, .ref a25, .ref a27])), (a1, .inr (9, [.ref a2, .int tn]))] (some (.int R.1)) [(a0, .inr (11, [.ref a1, .ref a3, .ref a7, .ref a8, .ref a17, .ref a18, .ref a20, .ref a23, .ref a25, .ref a27])), (a1, .inr (9, [.ref a2, .int R.2]))] := by
  refine mi_of (by decide) (vp_nar_int _) (Nat.le_of_ble_eq_true rfl) ?_
  intro p e s m args below meth c Q A ls hx hb hml hown hk hA w hret hl
  have hl : lv_has ls 2 [(0, .ref a0)] := hl
  obtain ⟨C0, hC0, h⟩ := sat_top h
  unfold f_X11_clear at h
  refine lv_aload_n hx hb dX11_clear_0 rfl (lv_at hl 0 rfl) ?_
  refine gf_X11_12 hx hb hown hk w.1 0 rfl rfl dX11_clear_1 ?_
  refine gf_X11_89 hx hb hown hk w.1 1 rfl rfl dX11_clear_4 ?_
  refine lv_istore_n (lv' := [(1, .int tn), (0, .ref a0)]) hx hb dX11_clear_7 rfl hl (by decide) rfl (fun ls hl => ?_)
  refine lv_aload_n hx hb dX11_clear_8 rfl (lv_at hl 1 rfl) ?_
  refine gf_X11_12 hx hb hown hk w.1 0 rfl rfl dX11_clear_9 ?_
  refine lv_iconst (v := 0) hx hb dX11_clear_12 (by decide) ?_
  refine pf_X11_89 (ws' := [(a0, .inr (11, [.ref a1, .ref a3, .ref a7, .ref a8, .ref a17, .ref a18, .ref a20, .ref a23, .ref a25, .ref a27])), (a1, .inr (9, [.ref a2, .int 0]))]) hx hb hown hk w 1 rfl (Nat.le_of_ble_eq_true rfl) rfl dX11_clear_13 (fun H locs w => ?_)
  refine lv_iload_n hx hb dX11_clear_16 rfl (lv_at hl 0 rfl) ?_
  have hR := hC0 _ (sat_some h)
  subst hR
  exact hret _ _ _ _ w dX11_clear_17
def f_X11_link (N : Nat) (dl : ar) (lt : Int32) (x1 : Int32) (x2 : Int32) : Option (Int32) := Option.bind (f_X3_pairOf N dl lt x1) fun r_1 => if r_1 = (-1) then some (-1) else if x2 = 0 then some (r_1 / 6) else if x2 = 1 then some (r_1 - r_1 / 6 * 6) else if x2 = 2 then ck (inb r_1 36) (some (dl r_1.toNatClampNeg)) else some (-1)
abbrev rm_X11_link : Room := { frames := 3, cells := 0, slots := 0, locals := 67 }
set_option maxRecDepth 100000 in
set_option maxHeartbeats 4000000 in
theorem k_X11_link (l : Launch) (D : va_G) (cI cZ cK : ClassId) (N : Nat) (a0 a1 a3 a7 a8 a17 a18 a20 a23 a25 a27 a9 a11 a12 a13 a14 a15 a16 a10 : Nat) (wz : Int32) (tm : Int32) (lt : Int32) (dl : ar) (x1 : Int32) (x2 : Int32) (R : Int32) (h : f_X11_link N dl lt x1 x2 = some R) : Rd l D cI cZ cK yX11_link cX11_link 4 (some .int) rm_X11_link [.ref a0, .int x1, .int x2] [(a0, .inr (11, [.ref a1, .ref a3, .ref a7, .ref a8, .ref a17, .ref a18, .ref a20, .ref a23, .ref a25, .ref a27])), (a8, .inr (1, [.ref a9, .ref a11, .ref a12, .ref a13, .ref a14, .ref a15, .ref a16, .int wz, .int tm])), (a9, .inr (3, [.ref a10, .int lt])), (a10, .inl (cI, 36, .inl dl))] R := by
  refine rd_of (by decide) (vp_nar_int _) (Nat.le_of_ble_eq_true rfl) ?_
  intro p e s m args below meth c Q ls hx hb hml hown hk hP hret hl
  have hl : lv_has ls 4 [(0, .ref a0), (1, .int x1), (2, .int x2)] := hl
  obtain ⟨C0, hC0, h⟩ := sat_top h
  unfold f_X11_link at h
  refine lv_aload_n hx hb dX11_link_0 rfl (lv_at hl 0 rfl) ?_
  refine gf_X11_35 hx hb hown hk hP 0 rfl rfl dX11_link_1 ?_
  refine gf_X11_118 hx hb hown hk hP 1 rfl rfl dX11_link_4 ?_
  refine lv_iload_n hx hb dX11_link_7 rfl (lv_at hl 1 rfl) ?_
  obtain ⟨r_1, e_1, h⟩ := sat_bind h
  refine cRV (rest := []) hx hb hml hown hk (k_X3_pairOf l D cI cZ cK N a9 a10 lt dl x1 r_1 e_1) (me_X3_pairOf hk.2.1) (mi_X3_pairOf hk.2.1) (ml_X11_119 hk.2.1) (hP.sub [2, 3] rfl) 0 rfl rfl rfl hl.1 rfl rfl (Nat.le_of_ble_eq_true rfl) ⟨rfl, rfl, Nat.le_of_ble_eq_true rfl, Nat.le_of_ble_eq_true rfl, Nat.zero_le _, Nat.zero_le _⟩ dX11_link_8 ?_
  refine lv_istore_n (lv' := [(3, .int r_1), (0, .ref a0), (1, .int x1), (2, .int x2)]) hx hb dX11_link_11 rfl hl (by decide) rfl (fun ls hl => ?_)
  refine lv_iload_n hx hb dX11_link_12 rfl (lv_at hl 0 rfl) ?_
  refine lv_iconst (v := (-1)) hx hb dX11_link_13 (by decide) ?_
  refine lv_icmp_ne (tgt := 19) hx hb dX11_link_14 (by decide) (fun c14 => ?_) (fun c14 => ?_)
  · have h := sat_f c14 h
    refine lv_iload_n hx hb dX11_link_19 rfl (lv_at hl 3 rfl) ?_
    by_cases c20_0 : x2 = 0
    · have h := sat_t c20_0 h
      refine lv_tableIn (off := 28) (tgt := 48) hx hb dX11_link_20 (by rw [c20_0]; decide) (by rw [c20_0]; decide) (by rw [c20_0]; decide) (by decide) ?_
      refine lv_iload_n hx hb dX11_link_48 rfl (lv_at hl 0 rfl) ?_
      refine lv_bipush (v := 6) hx hb dX11_link_49 (by decide) ?_
      refine lv_idiv hx hb dX11_link_51 (by decide) ?_
      have hR := hC0 _ (sat_some h)
      subst hR
      exact hret _ _ dX11_link_52
    have h := sat_f c20_0 h
    have nc20_0 := ne_ti (z := 0) c20_0 (by decide)
    by_cases c20_1 : x2 = 1
    · have h := sat_t c20_1 h
      refine lv_tableIn (off := 33) (tgt := 53) hx hb dX11_link_20 (by rw [c20_1]; decide) (by rw [c20_1]; decide) (by rw [c20_1]; decide) (by decide) ?_
      refine lv_iload_n hx hb dX11_link_53 rfl (lv_at hl 0 rfl) ?_
      refine lv_bipush (v := 6) hx hb dX11_link_54 (by decide) ?_
      refine lv_irem hx hb dX11_link_56 (by decide) ?_
      have hR := hC0 _ (sat_some h)
      subst hR
      exact hret _ _ dX11_link_57
    have h := sat_f c20_1 h
    have nc20_1 := ne_ti (z := 1) c20_1 (by decide)
    by_cases c20_2 : x2 = 2
    · have h := sat_t c20_2 h
      refine lv_tableIn (off := 38) (tgt := 58) hx hb dX11_link_20 (by rw [c20_2]; decide) (by rw [c20_2]; decide) (by rw [c20_2]; decide) (by decide) ?_
      refine lv_aload_n hx hb dX11_link_58 rfl (lv_at hl 1 rfl) ?_
      refine gf_X11_35 hx hb hown hk hP 0 rfl rfl dX11_link_59 ?_
      refine gf_X11_118 hx hb hown hk hP 1 rfl rfl dX11_link_62 ?_
      refine gf_X11_125 hx hb hown hk hP 2 rfl rfl dX11_link_65 ?_
      refine lv_iload_n hx hb dX11_link_68 rfl (lv_at hl 0 rfl) ?_
      obtain ⟨hi, h⟩ := sat_in h
      refine va_iald hx hb hk.1 hP 3 0 rfl rfl hi dX11_link_69 ?_
      have hR := hC0 _ (sat_some h)
      subst hR
      exact hret _ _ dX11_link_70
    have h := sat_f c20_2 h
    have nc20_2 := ne_ti (z := 2) c20_2 (by decide)
    refine lv_tableOut (tgt := 71) hx hb dX11_link_20 (by omega) (by decide) ?_
    refine lv_iconst (v := (-1)) hx hb dX11_link_71 (by decide) ?_
    have hR := hC0 _ (sat_some h)
    subst hR
    exact hret _ _ dX11_link_72
  · have h := sat_t c14 h
    refine lv_iconst (v := (-1)) hx hb dX11_link_17 (by decide) ?_
    have hR := hC0 _ (sat_some h)
    subst hR
    exact hret _ _ dX11_link_18
def f_X11_guess (rn : Int32) (ra : Int32) (rf : Int32) (dl : ar) (gs : ar) (md : ar) (tm : Int32) (x1 : Int32) (x2 : Int32) (x3 : Int32) : Option (Int32) := Option.bind (f_X11_refusalOfGuess rn dl x1 x2 x3) fun r_1 => if r_1 = 0 then Option.bind (f_X5_guessBy ra rf gs md tm x1 x2 x3) fun r_2 => some r_2 else some r_1
abbrev rm_X11_guess : Room := { frames := 3, cells := 0, slots := 0, locals := 66 }
set_option maxRecDepth 100000 in
set_option maxHeartbeats 4000000 in
theorem k_X11_guess (l : Launch) (D : va_G) (cI cZ cK : ClassId) (a0 a1 a3 a7 a8 a17 a18 a20 a23 a25 a27 a9 a11 a12 a13 a14 a15 a16 a10 : Nat) (rn : Int32) (re : Int32) (rh : Int32) (ra : Int32) (rl : Int32) (rf : Int32) (wz : Int32) (tm : Int32) (lt : Int32) (dl : ar) (gs : ar) (md : ar) (x1 : Int32) (x2 : Int32) (x3 : Int32) (R : Int32) (h : f_X11_guess rn ra rf dl gs md tm x1 x2 x3 = some R) : Rd l D cI cZ cK yX11_guess cX11_guess 5 (some .int) rm_X11_guess [.ref a0, .int x1, .int x2, .int x3] [(a0, .inr (11, [.ref a1, .ref a3, .ref a7, .ref a8, .ref a17, .ref a18, .ref a20, .ref a23, .ref a25, .ref a27])), (a7, .inr (7, [.int rn, .int re, .int rh, .int ra, .int rl, .int rf])), (a8, .inr (1, [.ref a9, .ref a11, .ref a12, .ref a13, .ref a14, .ref a15, .ref a16, .int wz, .int tm])), (a9, .inr (3, [.ref a10, .int lt])), (a10, .inl (cI, 36, .inl dl)), (a12, .inl (cI, 216, .inl gs)), (a13, .inl (cI, 216, .inl md)), (a17, .inr (5, [.ref a7, .ref a8]))] R := by
  refine rd_of (by decide) (vp_nar_int _) (Nat.le_of_ble_eq_true rfl) ?_
  intro p e s m args below meth c Q ls hx hb hml hown hk hP hret hl
  have hl : lv_has ls 5 [(0, .ref a0), (1, .int x1), (2, .int x2), (3, .int x3)] := hl
  obtain ⟨C0, hC0, h⟩ := sat_top h
  unfold f_X11_guess at h
  refine lv_aload_n hx hb dX11_guess_0 rfl (lv_at hl 0 rfl) ?_
  refine lv_iload_n hx hb dX11_guess_1 rfl (lv_at hl 1 rfl) ?_
  refine lv_iload_n hx hb dX11_guess_2 rfl (lv_at hl 2 rfl) ?_
  refine lv_iload_n hx hb dX11_guess_3 rfl (lv_at hl 3 rfl) ?_
  obtain ⟨r_1, e_1, h⟩ := sat_bind h
  refine cRV (rest := []) hx hb hml hown hk (k_X11_refusalOfGuess l D cI cZ cK a0 a1 a3 a7 a8 a17 a18 a20 a23 a25 a27 a9 a11 a12 a13 a14 a15 a16 a10 rn re rh ra rl rf wz tm lt dl x1 x2 x3 r_1 e_1) (me_X11_refusalOfGuess hk.2.1) (mi_X11_refusalOfGuess hk.2.1) (ml_X11_165 hk.2.1) (hP.sub [0, 1, 2, 3, 4] rfl) 0 rfl rfl rfl hl.1 rfl rfl (Nat.le_of_ble_eq_true rfl) ⟨rfl, rfl, Nat.le_of_ble_eq_true rfl, Nat.le_of_ble_eq_true rfl, Nat.zero_le _, Nat.zero_le _⟩ dX11_guess_4 ?_
  refine lv_istore (lv' := [(4, .int r_1), (0, .ref a0), (1, .int x1), (2, .int x2), (3, .int x3)]) hx hb dX11_guess_7 hl (by decide) rfl (fun ls hl => ?_)
  refine lv_iload hx hb dX11_guess_9 (lv_at hl 0 rfl) ?_
  refine lv_if_ne (tgt := 27) hx hb dX11_guess_11 (by decide) (fun c11 => ?_) (fun c11 => ?_)
  · have h := sat_f c11 h
    refine lv_iload hx hb dX11_guess_27 (lv_at hl 0 rfl) ?_
    have hR := hC0 _ (sat_some h)
    subst hR
    exact hret _ _ dX11_guess_29
  · have h := sat_t c11 h
    refine lv_aload_n hx hb dX11_guess_14 rfl (lv_at hl 1 rfl) ?_
    refine gf_X11_44 hx hb hown hk hP 0 rfl rfl dX11_guess_15 ?_
    refine lv_iload_n hx hb dX11_guess_18 rfl (lv_at hl 2 rfl) ?_
    refine lv_iload_n hx hb dX11_guess_19 rfl (lv_at hl 3 rfl) ?_
    refine lv_iload_n hx hb dX11_guess_20 rfl (lv_at hl 4 rfl) ?_
    obtain ⟨r_2, e_2, h⟩ := sat_bind h
    refine cRV (rest := []) hx hb hml hown hk (k_X5_guessBy l D cI cZ cK a17 a7 a8 a9 a11 a12 a13 a14 a15 a16 rn re rh ra rl rf wz tm gs md x1 x2 x3 r_2 e_2) (me_X5_guessBy hk.2.1) (mi_X5_guessBy hk.2.1) (ml_X11_169 hk.2.1) (hP.sub [7, 1, 2, 5, 6] rfl) 0 rfl rfl rfl hl.1 rfl rfl (Nat.le_of_ble_eq_true rfl) ⟨rfl, rfl, Nat.le_of_ble_eq_true rfl, Nat.le_of_ble_eq_true rfl, Nat.zero_le _, Nat.zero_le _⟩ dX11_guess_21 ?_
    refine lv_goto (tgt := 29) hx hb dX11_guess_24 (by decide) ?_
    have hR := hC0 _ (sat_some h)
    subst hR
    exact hret _ _ dX11_guess_29
def f_X11_mended (rn : Int32) (dl : ar) (md : ar) (x1 : Int32) (x2 : Int32) (x3 : Int32) : Option (Int32) := Option.bind (f_X11_refusalOfGuess rn dl x1 x2 x3) fun r_1 => if r_1 = 0 then Option.bind (f_X11_guessCell x1 x2 x3) fun r_2 => ck (inb r_2 216) (if (md r_2.toNatClampNeg) = 0 then some (-9) else some (md r_2.toNatClampNeg)) else some r_1
abbrev rm_X11_mended : Room := { frames := 3, cells := 0, slots := 0, locals := 66 }
set_option maxRecDepth 100000 in
set_option maxHeartbeats 4000000 in
theorem k_X11_mended (l : Launch) (D : va_G) (cI cZ cK : ClassId) (a0 a1 a3 a7 a8 a17 a18 a20 a23 a25 a27 a9 a11 a12 a13 a14 a15 a16 a10 : Nat) (rn : Int32) (re : Int32) (rh : Int32) (ra : Int32) (rl : Int32) (rf : Int32) (wz : Int32) (tm : Int32) (lt : Int32) (dl : ar) (md : ar) (x1 : Int32) (x2 : Int32) (x3 : Int32) (R : Int32) (h : f_X11_mended rn dl md x1 x2 x3 = some R) : Rd l D cI cZ cK yX11_mended cX11_mended 6 (some .int) rm_X11_mended [.ref a0, .int x1, .int x2, .int x3] [(a0, .inr (11, [.ref a1, .ref a3, .ref a7, .ref a8, .ref a17, .ref a18, .ref a20, .ref a23, .ref a25, .ref a27])), (a7, .inr (7, [.int rn, .int re, .int rh, .int ra, .int rl, .int rf])), (a8, .inr (1, [.ref a9, .ref a11, .ref a12, .ref a13, .ref a14, .ref a15, .ref a16, .int wz, .int tm])), (a9, .inr (3, [.ref a10, .int lt])), (a10, .inl (cI, 36, .inl dl)), (a13, .inl (cI, 216, .inl md))] R := by
  refine rd_of (by decide) (vp_nar_int _) (Nat.le_of_ble_eq_true rfl) ?_
  intro p e s m args below meth c Q ls hx hb hml hown hk hP hret hl
  have hl : lv_has ls 6 [(0, .ref a0), (1, .int x1), (2, .int x2), (3, .int x3)] := hl
  obtain ⟨C0, hC0, h⟩ := sat_top h
  unfold f_X11_mended at h
  refine lv_aload_n hx hb dX11_mended_0 rfl (lv_at hl 0 rfl) ?_
  refine lv_iload_n hx hb dX11_mended_1 rfl (lv_at hl 1 rfl) ?_
  refine lv_iload_n hx hb dX11_mended_2 rfl (lv_at hl 2 rfl) ?_
  refine lv_iload_n hx hb dX11_mended_3 rfl (lv_at hl 3 rfl) ?_
  obtain ⟨r_1, e_1, h⟩ := sat_bind h
  refine cRV (rest := []) hx hb hml hown hk (k_X11_refusalOfGuess l D cI cZ cK a0 a1 a3 a7 a8 a17 a18 a20 a23 a25 a27 a9 a11 a12 a13 a14 a15 a16 a10 rn re rh ra rl rf wz tm lt dl x1 x2 x3 r_1 e_1) (me_X11_refusalOfGuess hk.2.1) (mi_X11_refusalOfGuess hk.2.1) (ml_X11_165 hk.2.1) (hP.sub [0, 1, 2, 3, 4] rfl) 0 rfl rfl rfl hl.1 rfl rfl (Nat.le_of_ble_eq_true rfl) ⟨rfl, rfl, Nat.le_of_ble_eq_true rfl, Nat.le_of_ble_eq_true rfl, Nat.zero_le _, Nat.zero_le _⟩ dX11_mended_4 ?_
  refine lv_istore (lv' := [(4, .int r_1), (0, .ref a0), (1, .int x1), (2, .int x2), (3, .int x3)]) hx hb dX11_mended_7 hl (by decide) rfl (fun ls hl => ?_)
  refine lv_iload hx hb dX11_mended_9 (lv_at hl 0 rfl) ?_
  refine lv_if_eq (tgt := 17) hx hb dX11_mended_11 (by decide) (fun c11 => ?_) (fun c11 => ?_)
  · have h := sat_t c11 h
    refine lv_aload_n hx hb dX11_mended_17 rfl (lv_at hl 1 rfl) ?_
    refine gf_X11_35 hx hb hown hk hP 0 rfl rfl dX11_mended_18 ?_
    refine gf_X11_172 hx hb hown hk hP 2 rfl rfl dX11_mended_21 ?_
    refine lv_iload_n hx hb dX11_mended_24 rfl (lv_at hl 2 rfl) ?_
    refine lv_iload_n hx hb dX11_mended_25 rfl (lv_at hl 3 rfl) ?_
    refine lv_iload_n hx hb dX11_mended_26 rfl (lv_at hl 4 rfl) ?_
    obtain ⟨r_2, e_2, h⟩ := sat_bind h
    refine cRS (rest := [.ref a13]) hx hb hml hown hk (k_X11_guessCell l D cI cZ cK x1 x2 x3 r_2 e_2) (me_X11_guessCell hk.2.1) (ms_X11_guessCell hk.2.1) (ml_X11_175 hk.2.1) (hP.sub [] rfl) hl.1 rfl rfl (Nat.le_of_ble_eq_true rfl) ⟨rfl, rfl, Nat.le_of_ble_eq_true rfl, Nat.le_of_ble_eq_true rfl, Nat.zero_le _, Nat.zero_le _⟩ dX11_mended_27 ?_
    obtain ⟨hi, h⟩ := sat_in h
    refine va_iald hx hb hk.1 hP 5 0 rfl rfl hi dX11_mended_30 ?_
    refine lv_istore (lv' := [(5, .int (md r_2.toNatClampNeg)), (4, .int r_1), (0, .ref a0), (1, .int x1), (2, .int x2), (3, .int x3)]) hx hb dX11_mended_31 hl (by decide) rfl (fun ls hl => ?_)
    refine lv_iload hx hb dX11_mended_33 (lv_at hl 0 rfl) ?_
    refine lv_if_ne (tgt := 43) hx hb dX11_mended_35 (by decide) (fun c35 => ?_) (fun c35 => ?_)
    · have h := sat_f c35 h
      refine lv_iload hx hb dX11_mended_43 (lv_at hl 0 rfl) ?_
      have hR := hC0 _ (sat_some h)
      subst hR
      exact hret _ _ dX11_mended_45
    · have h := sat_t c35 h
      refine lv_bipush (v := (-9)) hx hb dX11_mended_38 (by decide) ?_
      refine lv_goto (tgt := 45) hx hb dX11_mended_40 (by decide) ?_
      have hR := hC0 _ (sat_some h)
      subst hR
      exact hret _ _ dX11_mended_45
  · have h := sat_f c11 h
    refine lv_iload hx hb dX11_mended_14 (lv_at hl 0 rfl) ?_
    have hR := hC0 _ (sat_some h)
    subst hR
    exact hret _ _ dX11_mended_16
def f_X11_best (N : Nat) (rn : Int32) (ra : Int32) (rf : Int32) (dl : ar) (gs : ar) (md : ar) (tm : Int32) (x1 : Int32) (x2 : Int32) : Option (Int32) := Option.bind (f_X11_areUnlike rn x1 x2) fun r_1 => if (b2i r_1) = 0 then some (-1) else Option.bind (f_X5_bestOf N rn ra rf dl gs md tm x1 x2) fun r_2 => some r_2
abbrev rm_X11_best : Room := { frames := 2, cells := 0, slots := 0, locals := 50 }
set_option maxRecDepth 100000 in
set_option maxHeartbeats 4000000 in
theorem k_X11_best (l : Launch) (D : va_G) (cI cZ cK : ClassId) (N : Nat) (a0 a1 a3 a7 a8 a17 a18 a20 a23 a25 a27 a9 a11 a12 a13 a14 a15 a16 a10 : Nat) (rn : Int32) (re : Int32) (rh : Int32) (ra : Int32) (rl : Int32) (rf : Int32) (wz : Int32) (tm : Int32) (lt : Int32) (dl : ar) (gs : ar) (md : ar) (x1 : Int32) (x2 : Int32) (R : Int32) (h : f_X11_best N rn ra rf dl gs md tm x1 x2 = some R) : Rd l D cI cZ cK yX11_best cX11_best 3 (some .int) rm_X11_best [.ref a0, .int x1, .int x2] [(a0, .inr (11, [.ref a1, .ref a3, .ref a7, .ref a8, .ref a17, .ref a18, .ref a20, .ref a23, .ref a25, .ref a27])), (a7, .inr (7, [.int rn, .int re, .int rh, .int ra, .int rl, .int rf])), (a8, .inr (1, [.ref a9, .ref a11, .ref a12, .ref a13, .ref a14, .ref a15, .ref a16, .int wz, .int tm])), (a9, .inr (3, [.ref a10, .int lt])), (a10, .inl (cI, 36, .inl dl)), (a12, .inl (cI, 216, .inl gs)), (a13, .inl (cI, 216, .inl md)), (a17, .inr (5, [.ref a7, .ref a8]))] R := by
  refine rd_of (by decide) (vp_nar_int _) (Nat.le_of_ble_eq_true rfl) ?_
  intro p e s m args below meth c Q ls hx hb hml hown hk hP hret hl
  have hl : lv_has ls 3 [(0, .ref a0), (1, .int x1), (2, .int x2)] := hl
  obtain ⟨C0, hC0, h⟩ := sat_top h
  unfold f_X11_best at h
  refine lv_aload_n hx hb dX11_best_0 rfl (lv_at hl 0 rfl) ?_
  refine lv_iload_n hx hb dX11_best_1 rfl (lv_at hl 1 rfl) ?_
  refine lv_iload_n hx hb dX11_best_2 rfl (lv_at hl 2 rfl) ?_
  obtain ⟨r_1, e_1, h⟩ := sat_bind h
  refine cRV (rest := []) hx hb hml hown hk (k_X11_areUnlike l D cI cZ cK a0 a1 a3 a7 a8 a17 a18 a20 a23 a25 a27 rn re rh ra rl rf x1 x2 r_1 e_1) (me_X11_areUnlike hk.2.1) (mi_X11_areUnlike hk.2.1) (ml_X11_129 hk.2.1) (hP.sub [0, 1] rfl) 0 rfl rfl rfl hl.1 rfl rfl (Nat.le_of_ble_eq_true rfl) ⟨rfl, rfl, Nat.le_of_ble_eq_true rfl, Nat.le_of_ble_eq_true rfl, Nat.zero_le _, Nat.zero_le _⟩ dX11_best_3 ?_
  refine lv_if_eq (tgt := 21) hx hb dX11_best_6 (by decide) (fun c6 => ?_) (fun c6 => ?_)
  · have h := sat_t c6 h
    refine lv_iconst (v := (-1)) hx hb dX11_best_21 (by decide) ?_
    have hR := hC0 _ (sat_some h)
    subst hR
    exact hret _ _ dX11_best_22
  · have h := sat_f c6 h
    refine lv_aload_n hx hb dX11_best_9 rfl (lv_at hl 0 rfl) ?_
    refine gf_X11_44 hx hb hown hk hP 0 rfl rfl dX11_best_10 ?_
    refine lv_iload_n hx hb dX11_best_13 rfl (lv_at hl 1 rfl) ?_
    refine lv_iload_n hx hb dX11_best_14 rfl (lv_at hl 2 rfl) ?_
    obtain ⟨r_2, e_2, h⟩ := sat_bind h
    refine cRV (rest := []) hx hb hml hown hk (k_X5_bestOf l D cI cZ cK N a17 a7 a8 a9 a11 a12 a13 a14 a15 a16 a10 rn re rh ra rl rf wz tm lt dl gs md x1 x2 r_2 e_2) (me_X5_bestOf hk.2.1) (mi_X5_bestOf hk.2.1) (ml_X11_178 hk.2.1) (hP.sub [7, 1, 2, 3, 4, 5, 6] rfl) 0 rfl rfl rfl hl.1 rfl rfl (Nat.le_of_ble_eq_true rfl) ⟨rfl, rfl, Nat.le_of_ble_eq_true rfl, Nat.le_of_ble_eq_true rfl, Nat.zero_le _, Nat.zero_le _⟩ dX11_best_15 ?_
    refine lv_goto (tgt := 22) hx hb dX11_best_18 (by decide) ?_
    have hR := hC0 _ (sat_some h)
    subst hR
    exact hret _ _ dX11_best_22
def f_X11_node (N : Nat) (rn : Int32) (dl : ar) (ct : ar) (xp : ar) (x1 : Int32) (x2 : Int32) : Option (Int32) := Option.bind (f_X11_isNode rn x1) fun r_1 => if (b2i r_1) = 0 then some (-1) else if x2 = 0 then ck (inb x1 6) (some (ct x1.toNatClampNeg)) else if x2 = 1 then ck (inb x1 6) (some (xp x1.toNatClampNeg)) else if x2 = 2 then Option.bind (f_X3_neighboursOf N dl x1) fun r_2 => some r_2 else some (-1)
abbrev rm_X11_node : Room := { frames := 3, cells := 0, slots := 0, locals := 66 }
set_option maxRecDepth 100000 in
set_option maxHeartbeats 4000000 in
theorem k_X11_node (l : Launch) (D : va_G) (cI cZ cK : ClassId) (N : Nat) (a0 a1 a3 a7 a8 a17 a18 a20 a23 a25 a27 a9 a11 a12 a13 a14 a15 a16 a10 : Nat) (rn : Int32) (re : Int32) (rh : Int32) (ra : Int32) (rl : Int32) (rf : Int32) (wz : Int32) (tm : Int32) (lt : Int32) (dl : ar) (ct : ar) (xp : ar) (x1 : Int32) (x2 : Int32) (R : Int32) (h : f_X11_node N rn dl ct xp x1 x2 = some R) : Rd l D cI cZ cK yX11_node cX11_node 3 (some .int) rm_X11_node [.ref a0, .int x1, .int x2] [(a0, .inr (11, [.ref a1, .ref a3, .ref a7, .ref a8, .ref a17, .ref a18, .ref a20, .ref a23, .ref a25, .ref a27])), (a7, .inr (7, [.int rn, .int re, .int rh, .int ra, .int rl, .int rf])), (a8, .inr (1, [.ref a9, .ref a11, .ref a12, .ref a13, .ref a14, .ref a15, .ref a16, .int wz, .int tm])), (a9, .inr (3, [.ref a10, .int lt])), (a10, .inl (cI, 36, .inl dl)), (a14, .inl (cI, 6, .inl ct)), (a15, .inl (cI, 6, .inl xp))] R := by
  refine rd_of (by decide) (vp_nar_int _) (Nat.le_of_ble_eq_true rfl) ?_
  intro p e s m args below meth c Q ls hx hb hml hown hk hP hret hl
  have hl : lv_has ls 3 [(0, .ref a0), (1, .int x1), (2, .int x2)] := hl
  obtain ⟨C0, hC0, h⟩ := sat_top h
  unfold f_X11_node at h
  refine lv_aload_n hx hb dX11_node_0 rfl (lv_at hl 0 rfl) ?_
  refine lv_iload_n hx hb dX11_node_1 rfl (lv_at hl 1 rfl) ?_
  obtain ⟨r_1, e_1, h⟩ := sat_bind h
  refine cRV (rest := []) hx hb hml hown hk (k_X11_isNode l D cI cZ cK a0 a1 a3 a7 a8 a17 a18 a20 a23 a25 a27 rn re rh ra rl rf x1 r_1 e_1) (me_X11_isNode hk.2.1) (mi_X11_isNode hk.2.1) (ml_X11_181 hk.2.1) (hP.sub [0, 1] rfl) 0 rfl rfl rfl hl.1 rfl rfl (Nat.le_of_ble_eq_true rfl) ⟨rfl, rfl, Nat.le_of_ble_eq_true rfl, Nat.le_of_ble_eq_true rfl, Nat.zero_le _, Nat.zero_le _⟩ dX11_node_2 ?_
  refine lv_if_ne (tgt := 10) hx hb dX11_node_5 (by decide) (fun c5 => ?_) (fun c5 => ?_)
  · have h := sat_f c5 h
    refine lv_iload_n hx hb dX11_node_10 rfl (lv_at hl 2 rfl) ?_
    by_cases c11_0 : x2 = 0
    · have h := sat_t c11_0 h
      refine lv_tableIn (off := 25) (tgt := 36) hx hb dX11_node_11 (by rw [c11_0]; decide) (by rw [c11_0]; decide) (by rw [c11_0]; decide) (by decide) ?_
      refine lv_aload_n hx hb dX11_node_36 rfl (lv_at hl 0 rfl) ?_
      refine gf_X11_35 hx hb hown hk hP 0 rfl rfl dX11_node_37 ?_
      refine gf_X11_184 hx hb hown hk hP 2 rfl rfl dX11_node_40 ?_
      refine lv_iload_n hx hb dX11_node_43 rfl (lv_at hl 1 rfl) ?_
      obtain ⟨hi, h⟩ := sat_in h
      refine va_iald hx hb hk.1 hP 5 0 rfl rfl hi dX11_node_44 ?_
      have hR := hC0 _ (sat_some h)
      subst hR
      exact hret _ _ dX11_node_45
    have h := sat_f c11_0 h
    have nc11_0 := ne_ti (z := 0) c11_0 (by decide)
    by_cases c11_1 : x2 = 1
    · have h := sat_t c11_1 h
      refine lv_tableIn (off := 35) (tgt := 46) hx hb dX11_node_11 (by rw [c11_1]; decide) (by rw [c11_1]; decide) (by rw [c11_1]; decide) (by decide) ?_
      refine lv_aload_n hx hb dX11_node_46 rfl (lv_at hl 0 rfl) ?_
      refine gf_X11_35 hx hb hown hk hP 0 rfl rfl dX11_node_47 ?_
      refine gf_X11_187 hx hb hown hk hP 2 rfl rfl dX11_node_50 ?_
      refine lv_iload_n hx hb dX11_node_53 rfl (lv_at hl 1 rfl) ?_
      obtain ⟨hi, h⟩ := sat_in h
      refine va_iald hx hb hk.1 hP 6 0 rfl rfl hi dX11_node_54 ?_
      have hR := hC0 _ (sat_some h)
      subst hR
      exact hret _ _ dX11_node_55
    have h := sat_f c11_1 h
    have nc11_1 := ne_ti (z := 1) c11_1 (by decide)
    by_cases c11_2 : x2 = 2
    · have h := sat_t c11_2 h
      refine lv_tableIn (off := 45) (tgt := 56) hx hb dX11_node_11 (by rw [c11_2]; decide) (by rw [c11_2]; decide) (by rw [c11_2]; decide) (by decide) ?_
      refine lv_aload_n hx hb dX11_node_56 rfl (lv_at hl 0 rfl) ?_
      refine gf_X11_35 hx hb hown hk hP 0 rfl rfl dX11_node_57 ?_
      refine gf_X11_118 hx hb hown hk hP 2 rfl rfl dX11_node_60 ?_
      refine lv_iload_n hx hb dX11_node_63 rfl (lv_at hl 1 rfl) ?_
      obtain ⟨r_2, e_2, h⟩ := sat_bind h
      refine cRV (rest := []) hx hb hml hown hk (k_X3_neighboursOf l D cI cZ cK N a9 a10 lt dl x1 r_2 e_2) (me_X3_neighboursOf hk.2.1) (mi_X3_neighboursOf hk.2.1) (ml_X11_190 hk.2.1) (hP.sub [3, 4] rfl) 0 rfl rfl rfl hl.1 rfl rfl (Nat.le_of_ble_eq_true rfl) ⟨rfl, rfl, Nat.le_of_ble_eq_true rfl, Nat.le_of_ble_eq_true rfl, Nat.zero_le _, Nat.zero_le _⟩ dX11_node_64 ?_
      have hR := hC0 _ (sat_some h)
      subst hR
      exact hret _ _ dX11_node_67
    have h := sat_f c11_2 h
    have nc11_2 := ne_ti (z := 2) c11_2 (by decide)
    refine lv_tableOut (tgt := 68) hx hb dX11_node_11 (by omega) (by decide) ?_
    refine lv_iconst (v := (-1)) hx hb dX11_node_68 (by decide) ?_
    have hR := hC0 _ (sat_some h)
    subst hR
    exact hret _ _ dX11_node_69
  · have h := sat_t c5 h
    refine lv_iconst (v := (-1)) hx hb dX11_node_8 (by decide) ?_
    have hR := hC0 _ (sat_some h)
    subst hR
    exact hret _ _ dX11_node_9
def f_X11_used (N : Nat) (dl : ar) (lt : Int32) (hp : ar) (x1 : Int32) : Option (Int32) := Option.bind (f_X3_pairOf N dl lt x1) fun r_1 => if r_1 = (-1) then some (-1) else ck (inb r_1 36) (some (hp r_1.toNatClampNeg))
abbrev rm_X11_used : Room := { frames := 3, cells := 0, slots := 0, locals := 67 }
set_option maxRecDepth 100000 in
set_option maxHeartbeats 4000000 in
theorem k_X11_used (l : Launch) (D : va_G) (cI cZ cK : ClassId) (N : Nat) (a0 a1 a3 a7 a8 a17 a18 a20 a23 a25 a27 a9 a11 a12 a13 a14 a15 a16 a10 : Nat) (wz : Int32) (tm : Int32) (lt : Int32) (dl : ar) (hp : ar) (x1 : Int32) (R : Int32) (h : f_X11_used N dl lt hp x1 = some R) : Rd l D cI cZ cK yX11_used cX11_used 3 (some .int) rm_X11_used [.ref a0, .int x1] [(a0, .inr (11, [.ref a1, .ref a3, .ref a7, .ref a8, .ref a17, .ref a18, .ref a20, .ref a23, .ref a25, .ref a27])), (a8, .inr (1, [.ref a9, .ref a11, .ref a12, .ref a13, .ref a14, .ref a15, .ref a16, .int wz, .int tm])), (a9, .inr (3, [.ref a10, .int lt])), (a10, .inl (cI, 36, .inl dl)), (a11, .inl (cI, 36, .inl hp))] R := by
  refine rd_of (by decide) (vp_nar_int _) (Nat.le_of_ble_eq_true rfl) ?_
  intro p e s m args below meth c Q ls hx hb hml hown hk hP hret hl
  have hl : lv_has ls 3 [(0, .ref a0), (1, .int x1)] := hl
  obtain ⟨C0, hC0, h⟩ := sat_top h
  unfold f_X11_used at h
  refine lv_aload_n hx hb dX11_used_0 rfl (lv_at hl 0 rfl) ?_
  refine gf_X11_35 hx hb hown hk hP 0 rfl rfl dX11_used_1 ?_
  refine gf_X11_118 hx hb hown hk hP 1 rfl rfl dX11_used_4 ?_
  refine lv_iload_n hx hb dX11_used_7 rfl (lv_at hl 1 rfl) ?_
  obtain ⟨r_1, e_1, h⟩ := sat_bind h
  refine cRV (rest := []) hx hb hml hown hk (k_X3_pairOf l D cI cZ cK N a9 a10 lt dl x1 r_1 e_1) (me_X3_pairOf hk.2.1) (mi_X3_pairOf hk.2.1) (ml_X11_119 hk.2.1) (hP.sub [2, 3] rfl) 0 rfl rfl rfl hl.1 rfl rfl (Nat.le_of_ble_eq_true rfl) ⟨rfl, rfl, Nat.le_of_ble_eq_true rfl, Nat.le_of_ble_eq_true rfl, Nat.zero_le _, Nat.zero_le _⟩ dX11_used_8 ?_
  refine lv_istore_n (lv' := [(2, .int r_1), (0, .ref a0), (1, .int x1)]) hx hb dX11_used_11 rfl hl (by decide) rfl (fun ls hl => ?_)
  refine lv_iload_n hx hb dX11_used_12 rfl (lv_at hl 0 rfl) ?_
  refine lv_iconst (v := (-1)) hx hb dX11_used_13 (by decide) ?_
  refine lv_icmp_ne (tgt := 21) hx hb dX11_used_14 (by decide) (fun c14 => ?_) (fun c14 => ?_)
  · have h := sat_f c14 h
    refine lv_aload_n hx hb dX11_used_21 rfl (lv_at hl 1 rfl) ?_
    refine gf_X11_35 hx hb hown hk hP 0 rfl rfl dX11_used_22 ?_
    refine gf_X11_193 hx hb hown hk hP 1 rfl rfl dX11_used_25 ?_
    refine lv_iload_n hx hb dX11_used_28 rfl (lv_at hl 0 rfl) ?_
    obtain ⟨hi, h⟩ := sat_in h
    refine va_iald hx hb hk.1 hP 4 0 rfl rfl hi dX11_used_29 ?_
    have hR := hC0 _ (sat_some h)
    subst hR
    exact hret _ _ dX11_used_30
  · have h := sat_t c14 h
    refine lv_iconst (v := (-1)) hx hb dX11_used_17 (by decide) ?_
    refine lv_goto (tgt := 30) hx hb dX11_used_18 (by decide) ?_
    have hR := hC0 _ (sat_some h)
    subst hR
    exact hret _ _ dX11_used_30
def f_X11_way (wn : ar) (wz : Int32) (x1 : Int32) : Option (Int32) := if (-1) ≤ x1 then if wz ≤ x1 then some (-9) else if wz = 0 then some (-9) else if x1 = (-1) then some (wz - 1) else ck (inb x1 101) (some (wn x1.toNatClampNeg)) else some (-1)
abbrev rm_X11_way : Room := { frames := 0, cells := 0, slots := 0, locals := 0 }
set_option maxRecDepth 100000 in
set_option maxHeartbeats 4000000 in
theorem k_X11_way (l : Launch) (D : va_G) (cI cZ cK : ClassId) (a0 a1 a3 a7 a8 a17 a18 a20 a23 a25 a27 a9 a11 a12 a13 a14 a15 a16 : Nat) (wz : Int32) (tm : Int32) (wn : ar) (x1 : Int32) (R : Int32) (h : f_X11_way wn wz x1 = some R) : Rd l D cI cZ cK yX11_way cX11_way 2 (some .int) rm_X11_way [.ref a0, .int x1] [(a0, .inr (11, [.ref a1, .ref a3, .ref a7, .ref a8, .ref a17, .ref a18, .ref a20, .ref a23, .ref a25, .ref a27])), (a8, .inr (1, [.ref a9, .ref a11, .ref a12, .ref a13, .ref a14, .ref a15, .ref a16, .int wz, .int tm])), (a16, .inl (cI, 101, .inl wn))] R := by
  refine rd_of (by decide) (vp_nar_int _) (Nat.le_of_ble_eq_true rfl) ?_
  intro p e s m args below meth c Q ls hx hb hml hown hk hP hret hl
  have hl : lv_has ls 2 [(0, .ref a0), (1, .int x1)] := hl
  obtain ⟨C0, hC0, h⟩ := sat_top h
  unfold f_X11_way at h
  refine lv_iload_n hx hb dX11_way_0 rfl (lv_at hl 1 rfl) ?_
  refine lv_iconst (v := (-1)) hx hb dX11_way_1 (by decide) ?_
  refine lv_icmp_ge (tgt := 7) hx hb dX11_way_2 (by decide) (fun c2 => ?_) (fun c2 => ?_)
  · have h := sat_t c2 h
    refine lv_iload_n hx hb dX11_way_7 rfl (lv_at hl 1 rfl) ?_
    refine lv_aload_n hx hb dX11_way_8 rfl (lv_at hl 0 rfl) ?_
    refine gf_X11_35 hx hb hown hk hP 0 rfl rfl dX11_way_9 ?_
    refine gf_X11_196 hx hb hown hk hP 1 rfl rfl dX11_way_12 ?_
    refine lv_icmp_ge (tgt := 28) hx hb dX11_way_15 (by decide) (fun c15 => ?_) (fun c15 => ?_)
    · have h := sat_t c15 h
      refine lv_bipush (v := (-9)) hx hb dX11_way_28 (by decide) ?_
      have hR := hC0 _ (sat_some h)
      subst hR
      exact hret _ _ dX11_way_30
    · have h := sat_f c15 h
      refine lv_aload_n hx hb dX11_way_18 rfl (lv_at hl 0 rfl) ?_
      refine gf_X11_35 hx hb hown hk hP 0 rfl rfl dX11_way_19 ?_
      refine gf_X11_196 hx hb hown hk hP 1 rfl rfl dX11_way_22 ?_
      refine lv_if_ne (tgt := 31) hx hb dX11_way_25 (by decide) (fun c25 => ?_) (fun c25 => ?_)
      · have h := sat_f c25 h
        refine lv_iload_n hx hb dX11_way_31 rfl (lv_at hl 1 rfl) ?_
        refine lv_iconst (v := (-1)) hx hb dX11_way_32 (by decide) ?_
        refine lv_icmp_ne (tgt := 48) hx hb dX11_way_33 (by decide) (fun c33 => ?_) (fun c33 => ?_)
        · have h := sat_f c33 h
          refine lv_aload_n hx hb dX11_way_48 rfl (lv_at hl 0 rfl) ?_
          refine gf_X11_35 hx hb hown hk hP 0 rfl rfl dX11_way_49 ?_
          refine gf_X11_199 hx hb hown hk hP 1 rfl rfl dX11_way_52 ?_
          refine lv_iload_n hx hb dX11_way_55 rfl (lv_at hl 1 rfl) ?_
          obtain ⟨hi, h⟩ := sat_in h
          refine va_iald hx hb hk.1 hP 2 0 rfl rfl hi dX11_way_56 ?_
          have hR := hC0 _ (sat_some h)
          subst hR
          exact hret _ _ dX11_way_57
        · have h := sat_t c33 h
          refine lv_aload_n hx hb dX11_way_36 rfl (lv_at hl 0 rfl) ?_
          refine gf_X11_35 hx hb hown hk hP 0 rfl rfl dX11_way_37 ?_
          refine gf_X11_196 hx hb hown hk hP 1 rfl rfl dX11_way_40 ?_
          refine lv_iconst (v := 1) hx hb dX11_way_43 (by decide) ?_
          refine lv_isub hx hb dX11_way_44 ?_
          refine lv_goto (tgt := 57) hx hb dX11_way_45 (by decide) ?_
          have hR := hC0 _ (sat_some h)
          subst hR
          exact hret _ _ dX11_way_57
      · have h := sat_t c25 h
        refine lv_bipush (v := (-9)) hx hb dX11_way_28 (by decide) ?_
        have hR := hC0 _ (sat_some h)
        subst hR
        exact hret _ _ dX11_way_30
  · have h := sat_f c2 h
    refine lv_iconst (v := (-1)) hx hb dX11_way_5 (by decide) ?_
    have hR := hC0 _ (sat_some h)
    subst hR
    exact hret _ _ dX11_way_6
def f_X11_path (N : Nat) (rn : Int32) (ra : Int32) (rf : Int32) (dl : ar) (gs : ar) (md : ar) (tm : Int32) (pn : ar) (pz : Int32) (pd : Int32) (x1 : Int32) (x2 : Int32) (x3 : Int32) : Option (Int32 × Int32 × Int32 × ar) := Option.bind (f_X11_areUnlike rn x1 x2) fun r_1 => if (b2i r_1) = 0 then some ((-1), pz, pd, pn) else if (-1) ≤ x3 then Option.bind (f_X10_follow N rn ra rf dl gs md tm pn pz x1 x2) fun r_2 => if x3 = (-1) then some (r_2.2.1, r_2.2.1, r_2.2.2.1, r_2.2.2.2) else if r_2.2.1 ≤ x3 then some ((-9), r_2.2.1, r_2.2.2.1, r_2.2.2.2) else ck (inb x3 6) (some (r_2.2.2.2 x3.toNatClampNeg, r_2.2.1, r_2.2.2.1, r_2.2.2.2)) else some ((-1), pz, pd, pn)
abbrev rm_X11_path : Room := { frames := 3, cells := 0, slots := 0, locals := 76 }
set_option maxRecDepth 100000 in
set_option maxHeartbeats 4000000 in
theorem k_X11_path (l : Launch) (D : va_G) (cI cZ cK : ClassId) (N : Nat) (a0 a1 a3 a7 a8 a17 a18 a20 a23 a25 a27 a9 a11 a12 a13 a14 a15 a16 a10 a24 : Nat) (rn : Int32) (re : Int32) (rh : Int32) (ra : Int32) (rl : Int32) (rf : Int32) (wz : Int32) (tm : Int32) (lt : Int32) (dl : ar) (gs : ar) (md : ar) (pz : Int32) (pd : Int32) (pn : ar) (x1 : Int32) (x2 : Int32) (x3 : Int32) (R : Int32 × Int32 × Int32 × ar) (h : f_X11_path N rn ra rf dl gs md tm pn pz pd x1 x2 x3 = some R) : Mu l D cI cZ cK yX11_path cX11_path 4 (some .int) rm_X11_path [.ref a0, .int x1, .int x2, .int x3] [(a0, .inr (11, [.ref a1, .ref a3, .ref a7, .ref a8, .ref a17, .ref a18, .ref a20, .ref a23, .ref a25, .ref a27])), (a7, .inr (7, [.int rn, .int re, .int rh, .int ra, .int rl, .int rf])), (a8, .inr (1, [.ref a9, .ref a11, .ref a12, .ref a13, .ref a14, .ref a15, .ref a16, .int wz, .int tm])), (a9, .inr (3, [.ref a10, .int lt])), (a10, .inl (cI, 36, .inl dl)), (a12, .inl (cI, 216, .inl gs)), (a13, .inl (cI, 216, .inl md)), (a17, .inr (5, [.ref a7, .ref a8])), (a23, .inr (10, [.ref a17, .ref a24, .int pz, .int pd])), (a24, .inl (cI, 6, .inl pn))] (some (.int R.1)) [(a0, .inr (11, [.ref a1, .ref a3, .ref a7, .ref a8, .ref a17, .ref a18, .ref a20, .ref a23, .ref a25, .ref a27])), (a7, .inr (7, [.int rn, .int re, .int rh, .int ra, .int rl, .int rf])), (a8, .inr (1, [.ref a9, .ref a11, .ref a12, .ref a13, .ref a14, .ref a15, .ref a16, .int wz, .int tm])), (a9, .inr (3, [.ref a10, .int lt])), (a10, .inl (cI, 36, .inl dl)), (a12, .inl (cI, 216, .inl gs)), (a13, .inl (cI, 216, .inl md)), (a17, .inr (5, [.ref a7, .ref a8])), (a23, .inr (10, [.ref a17, .ref a24, .int R.2.1, .int R.2.2.1])), (a24, .inl (cI, 6, .inl R.2.2.2))] := by
  refine mi_of (by decide) (vp_nar_int _) (Nat.le_of_ble_eq_true rfl) ?_
  intro p e s m args below meth c Q A ls hx hb hml hown hk hA w hret hl
  have hl : lv_has ls 4 [(0, .ref a0), (1, .int x1), (2, .int x2), (3, .int x3)] := hl
  obtain ⟨C0, hC0, h⟩ := sat_top h
  unfold f_X11_path at h
  refine lv_aload_n hx hb dX11_path_0 rfl (lv_at hl 0 rfl) ?_
  refine lv_iload_n hx hb dX11_path_1 rfl (lv_at hl 1 rfl) ?_
  refine lv_iload_n hx hb dX11_path_2 rfl (lv_at hl 2 rfl) ?_
  obtain ⟨r_1, e_1, h⟩ := sat_bind h
  refine cRV (rest := []) hx hb hml hown hk (k_X11_areUnlike l D cI cZ cK a0 a1 a3 a7 a8 a17 a18 a20 a23 a25 a27 rn re rh ra rl rf x1 x2 r_1 e_1) (me_X11_areUnlike hk.2.1) (mi_X11_areUnlike hk.2.1) (ml_X11_129 hk.2.1) (w.1.sub [0, 1] rfl) 0 rfl rfl rfl hl.1 rfl rfl (Nat.le_of_ble_eq_true rfl) ⟨rfl, rfl, Nat.le_of_ble_eq_true rfl, Nat.le_of_ble_eq_true rfl, Nat.zero_le _, Nat.zero_le _⟩ dX11_path_3 ?_
  refine lv_if_eq (tgt := 14) hx hb dX11_path_6 (by decide) (fun c6 => ?_) (fun c6 => ?_)
  · have h := sat_t c6 h
    refine lv_iconst (v := (-1)) hx hb dX11_path_14 (by decide) ?_
    have hR := hC0 _ (sat_some h)
    subst hR
    exact hret _ _ _ _ w dX11_path_15
  · have h := sat_f c6 h
    refine lv_iload_n hx hb dX11_path_9 rfl (lv_at hl 3 rfl) ?_
    refine lv_iconst (v := (-1)) hx hb dX11_path_10 (by decide) ?_
    refine lv_icmp_ge (tgt := 16) hx hb dX11_path_11 (by decide) (fun c11 => ?_) (fun c11 => ?_)
    · have h := sat_t c11 h
      refine lv_aload_n hx hb dX11_path_16 rfl (lv_at hl 0 rfl) ?_
      refine gf_X11_67 hx hb hown hk w.1 0 rfl rfl dX11_path_17 ?_
      refine lv_iload_n hx hb dX11_path_20 rfl (lv_at hl 1 rfl) ?_
      refine lv_iload_n hx hb dX11_path_21 rfl (lv_at hl 2 rfl) ?_
      obtain ⟨r_2, e_2, h⟩ := sat_bind h
      refine cMV (rest := []) (wr := [(a0, .inr (11, [.ref a1, .ref a3, .ref a7, .ref a8, .ref a17, .ref a18, .ref a20, .ref a23, .ref a25, .ref a27]))]) (ws' := [(a0, .inr (11, [.ref a1, .ref a3, .ref a7, .ref a8, .ref a17, .ref a18, .ref a20, .ref a23, .ref a25, .ref a27])), (a7, .inr (7, [.int rn, .int re, .int rh, .int ra, .int rl, .int rf])), (a8, .inr (1, [.ref a9, .ref a11, .ref a12, .ref a13, .ref a14, .ref a15, .ref a16, .int wz, .int tm])), (a9, .inr (3, [.ref a10, .int lt])), (a10, .inl (cI, 36, .inl dl)), (a12, .inl (cI, 216, .inl gs)), (a13, .inl (cI, 216, .inl md)), (a17, .inr (5, [.ref a7, .ref a8])), (a23, .inr (10, [.ref a17, .ref a24, .int r_2.2.1, .int r_2.2.2.1])), (a24, .inl (cI, 6, .inl r_2.2.2.2))]) hx hb hml hown hk w hA (k_X10_follow l D cI cZ cK N a23 a17 a24 a7 a8 a9 a11 a12 a13 a14 a15 a16 a10 pz pd rn re rh ra rl rf wz tm lt dl gs md pn x1 x2 r_2 e_2) (me_X10_follow hk.2.1) (mi_X10_follow hk.2.1) (ml_X11_202 hk.2.1) ((pmn 10 [8, 7, 1, 2, 3, 4, 5, 6, 9, 0] rfl rfl (by decide))) ((pmn 10 [9, 2, 3, 4, 5, 6, 7, 1, 0, 8] rfl rfl (by decide))) 0 rfl rfl rfl hl.1 rfl rfl (Nat.le_of_ble_eq_true rfl) ⟨rfl, rfl, Nat.le_of_ble_eq_true rfl, Nat.le_of_ble_eq_true rfl, Nat.zero_le _, Nat.zero_le _⟩ dX11_path_22 (fun H locs w => ?_)
      refine W.eq (g2 := F0 m 25 ls [.int (b2i r_2.1)]) rfl ?_
      refine lv_pop hx hb dX11_path_25 rfl ?_
      refine lv_iload_n hx hb dX11_path_26 rfl (lv_at hl 3 rfl) ?_
      refine lv_iconst (v := (-1)) hx hb dX11_path_27 (by decide) ?_
      refine lv_icmp_ne (tgt := 39) hx hb dX11_path_28 (by decide) (fun c28 => ?_) (fun c28 => ?_)
      · have h := sat_f c28 h
        refine lv_iload_n hx hb dX11_path_39 rfl (lv_at hl 3 rfl) ?_
        refine lv_aload_n hx hb dX11_path_40 rfl (lv_at hl 0 rfl) ?_
        refine gf_X11_67 hx hb hown hk w.1 0 rfl rfl dX11_path_41 ?_
        refine gf_X11_205 hx hb hown hk w.1 8 rfl rfl dX11_path_44 ?_
        refine lv_icmp_ge (tgt := 62) hx hb dX11_path_47 (by decide) (fun c47 => ?_) (fun c47 => ?_)
        · have h := sat_t c47 h
          refine lv_bipush (v := (-9)) hx hb dX11_path_62 (by decide) ?_
          have hR := hC0 _ (sat_some h)
          subst hR
          exact hret _ _ _ _ w dX11_path_64
        · have h := sat_f c47 h
          refine lv_aload_n hx hb dX11_path_50 rfl (lv_at hl 0 rfl) ?_
          refine gf_X11_67 hx hb hown hk w.1 0 rfl rfl dX11_path_51 ?_
          refine gf_X11_206 hx hb hown hk w.1 8 rfl rfl dX11_path_54 ?_
          refine lv_iload_n hx hb dX11_path_57 rfl (lv_at hl 3 rfl) ?_
          obtain ⟨hi, h⟩ := sat_in h
          refine va_iald hx hb hk.1 w.1 9 0 rfl rfl hi dX11_path_58 ?_
          refine lv_goto (tgt := 64) hx hb dX11_path_59 (by decide) ?_
          have hR := hC0 _ (sat_some h)
          subst hR
          exact hret _ _ _ _ w dX11_path_64
      · have h := sat_t c28 h
        refine lv_aload_n hx hb dX11_path_31 rfl (lv_at hl 0 rfl) ?_
        refine gf_X11_67 hx hb hown hk w.1 0 rfl rfl dX11_path_32 ?_
        refine gf_X11_205 hx hb hown hk w.1 8 rfl rfl dX11_path_35 ?_
        have hR := hC0 _ (sat_some h)
        subst hR
        exact hret _ _ _ _ w dX11_path_38
    · have h := sat_f c11 h
      refine lv_iconst (v := (-1)) hx hb dX11_path_14 (by decide) ?_
      have hR := hC0 _ (sat_some h)
      subst hR
      exact hret _ _ _ _ w dX11_path_15
def f_X11_astray_L14 (rn : Int32) (ra : Int32) (rf : Int32) (dl : ar) (gs : ar) (md : ar) (tm : Int32) (x1 : Int32) (N : Nat) : Nat → Int32 → Int32 → Int32 → Int32 → ar → Option (Int32 × Int32 × Int32 × ar)
  | 0, _, _, _, _, _ => none
  | n + 1, x2_14, x3_14, pz_14, pd_14, pn_14 => if rn ≤ x3_14 then some (x2_14, pz_14, pd_14, pn_14) else if x3_14 = x1 then f_X11_astray_L14 rn ra rf dl gs md tm x1 N n x2_14 (x3_14 + 1) pz_14 pd_14 pn_14 else Option.bind (f_X10_follow N rn ra rf dl gs md tm pn_14 pz_14 x3_14 x1) fun r_2 => if (b2i r_2.1) = 0 then f_X11_astray_L14 rn ra rf dl gs md tm x1 N n (x2_14 + 1) (x3_14 + 1) r_2.2.1 r_2.2.2.1 r_2.2.2.2 else f_X11_astray_L14 rn ra rf dl gs md tm x1 N n x2_14 (x3_14 + 1) r_2.2.1 r_2.2.2.1 r_2.2.2.2
def f_X11_astray (N : Nat) (rn : Int32) (ra : Int32) (rf : Int32) (dl : ar) (gs : ar) (md : ar) (tm : Int32) (pn : ar) (pz : Int32) (pd : Int32) (x1 : Int32) : Option (Int32 × Int32 × Int32 × ar) := Option.bind (f_X11_isNode rn x1) fun r_1 => if (b2i r_1) = 0 then some ((-1), pz, pd, pn) else Option.bind (f_X11_astray_L14 rn ra rf dl gs md tm x1 N N 0 0 pz pd pn) fun s14 => some (s14.1, s14.2.1, s14.2.2.1, s14.2.2.2)
abbrev rm_X11_astray : Room := { frames := 3, cells := 0, slots := 0, locals := 76 }
set_option maxRecDepth 100000 in
set_option maxHeartbeats 4000000 in
theorem k_X11_astray (l : Launch) (D : va_G) (cI cZ cK : ClassId) (N : Nat) (a0 a1 a3 a7 a8 a17 a18 a20 a23 a25 a27 a9 a11 a12 a13 a14 a15 a16 a10 a24 : Nat) (rn : Int32) (re : Int32) (rh : Int32) (ra : Int32) (rl : Int32) (rf : Int32) (wz : Int32) (tm : Int32) (lt : Int32) (dl : ar) (gs : ar) (md : ar) (pz : Int32) (pd : Int32) (pn : ar) (x1 : Int32) (R : Int32 × Int32 × Int32 × ar) (h : f_X11_astray N rn ra rf dl gs md tm pn pz pd x1 = some R) : Mu l D cI cZ cK yX11_astray cX11_astray 4 (some .int) rm_X11_astray [.ref a0, .int x1] [(a0, .inr (11, [.ref a1, .ref a3, .ref a7, .ref a8, .ref a17, .ref a18, .ref a20, .ref a23, .ref a25, .ref a27])), (a7, .inr (7, [.int rn, .int re, .int rh, .int ra, .int rl, .int rf])), (a8, .inr (1, [.ref a9, .ref a11, .ref a12, .ref a13, .ref a14, .ref a15, .ref a16, .int wz, .int tm])), (a9, .inr (3, [.ref a10, .int lt])), (a10, .inl (cI, 36, .inl dl)), (a12, .inl (cI, 216, .inl gs)), (a13, .inl (cI, 216, .inl md)), (a17, .inr (5, [.ref a7, .ref a8])), (a23, .inr (10, [.ref a17, .ref a24, .int pz, .int pd])), (a24, .inl (cI, 6, .inl pn))] (some (.int R.1)) [(a0, .inr (11, [.ref a1, .ref a3, .ref a7, .ref a8, .ref a17, .ref a18, .ref a20, .ref a23, .ref a25, .ref a27])), (a7, .inr (7, [.int rn, .int re, .int rh, .int ra, .int rl, .int rf])), (a8, .inr (1, [.ref a9, .ref a11, .ref a12, .ref a13, .ref a14, .ref a15, .ref a16, .int wz, .int tm])), (a9, .inr (3, [.ref a10, .int lt])), (a10, .inl (cI, 36, .inl dl)), (a12, .inl (cI, 216, .inl gs)), (a13, .inl (cI, 216, .inl md)), (a17, .inr (5, [.ref a7, .ref a8])), (a23, .inr (10, [.ref a17, .ref a24, .int R.2.1, .int R.2.2.1])), (a24, .inl (cI, 6, .inl R.2.2.2))] := by
  refine mi_of (by decide) (vp_nar_int _) (Nat.le_of_ble_eq_true rfl) ?_
  intro p e s m args below meth c Q A ls hx hb hml hown hk hA w hret hl
  have hl : lv_has ls 4 [(0, .ref a0), (1, .int x1)] := hl
  obtain ⟨C0, hC0, h⟩ := sat_top h
  unfold f_X11_astray at h
  refine lv_aload_n hx hb dX11_astray_0 rfl (lv_at hl 0 rfl) ?_
  refine lv_iload_n hx hb dX11_astray_1 rfl (lv_at hl 1 rfl) ?_
  obtain ⟨r_1, e_1, h⟩ := sat_bind h
  refine cRV (rest := []) hx hb hml hown hk (k_X11_isNode l D cI cZ cK a0 a1 a3 a7 a8 a17 a18 a20 a23 a25 a27 rn re rh ra rl rf x1 r_1 e_1) (me_X11_isNode hk.2.1) (mi_X11_isNode hk.2.1) (ml_X11_181 hk.2.1) (w.1.sub [0, 1] rfl) 0 rfl rfl rfl hl.1 rfl rfl (Nat.le_of_ble_eq_true rfl) ⟨rfl, rfl, Nat.le_of_ble_eq_true rfl, Nat.le_of_ble_eq_true rfl, Nat.zero_le _, Nat.zero_le _⟩ dX11_astray_2 ?_
  refine lv_if_ne (tgt := 10) hx hb dX11_astray_5 (by decide) (fun c5 => ?_) (fun c5 => ?_)
  · have h := sat_f c5 h
    refine lv_iconst (v := 0) hx hb dX11_astray_10 (by decide) ?_
    refine lv_istore_n (lv' := [(2, .int 0), (0, .ref a0), (1, .int x1)]) hx hb dX11_astray_11 rfl hl (by decide) rfl (fun ls hl => ?_)
    refine lv_iconst (v := 0) hx hb dX11_astray_12 (by decide) ?_
    refine lv_istore_n (lv' := [(3, .int 0), (2, .int 0), (0, .ref a0), (1, .int x1)]) hx hb dX11_astray_13 rfl hl (by decide) rfl (fun ls hl => ?_)
    obtain ⟨T14, hT14, h⟩ := sat_reg h
    have E14 : ∀ (e2_3 : Int32) (pz_4 : Int32) (pd_5 : Int32) (pn_6 : ar) (H : Heap) (locs : List Loc) (ls : Array Slot), T14 (e2_3, pz_4, pd_5, pn_6) → wd D A s.heap H locs [(a0, .inr (11, [.ref a1, .ref a3, .ref a7, .ref a8, .ref a17, .ref a18, .ref a20, .ref a23, .ref a25, .ref a27])), (a7, .inr (7, [.int rn, .int re, .int rh, .int ra, .int rl, .int rf])), (a8, .inr (1, [.ref a9, .ref a11, .ref a12, .ref a13, .ref a14, .ref a15, .ref a16, .int wz, .int tm])), (a9, .inr (3, [.ref a10, .int lt])), (a10, .inl (cI, 36, .inl dl)), (a12, .inl (cI, 216, .inl gs)), (a13, .inl (cI, 216, .inl md)), (a17, .inr (5, [.ref a7, .ref a8])), (a23, .inr (10, [.ref a17, .ref a24, .int pz_4, .int pd_5])), (a24, .inl (cI, 6, .inl pn_6))] → lv_has ls 4 [(2, .int e2_3)] → W p l e rm_X11_astray s m args below meth c H locs 0 0 Q (F0 m 51 ls []) := by
      intro e2_3 pz_4 pd_5 pn_6 H locs ls h w hl
      have h := hT14 _ h
      dsimp only at h
      refine lv_iload_n hx hb dX11_astray_51 rfl (lv_at hl 0 rfl) ?_
      have hR := hC0 _ (sat_some h)
      subst hR
      exact hret _ _ _ _ w dX11_astray_52
    have L14 : ∀ (n : Nat) (x2_14 : Int32) (x3_14 : Int32) (pz_14 : Int32) (pd_14 : Int32) (pn_14 : ar) (H : Heap) (locs : List Loc) (ls : Array Slot), sat (f_X11_astray_L14 rn ra rf dl gs md tm x1 N n x2_14 x3_14 pz_14 pd_14 pn_14) T14 → wd D A s.heap H locs [(a0, .inr (11, [.ref a1, .ref a3, .ref a7, .ref a8, .ref a17, .ref a18, .ref a20, .ref a23, .ref a25, .ref a27])), (a7, .inr (7, [.int rn, .int re, .int rh, .int ra, .int rl, .int rf])), (a8, .inr (1, [.ref a9, .ref a11, .ref a12, .ref a13, .ref a14, .ref a15, .ref a16, .int wz, .int tm])), (a9, .inr (3, [.ref a10, .int lt])), (a10, .inl (cI, 36, .inl dl)), (a12, .inl (cI, 216, .inl gs)), (a13, .inl (cI, 216, .inl md)), (a17, .inr (5, [.ref a7, .ref a8])), (a23, .inr (10, [.ref a17, .ref a24, .int pz_14, .int pd_14])), (a24, .inl (cI, 6, .inl pn_14))] → lv_has ls 4 [(0, .ref a0), (1, .int x1), (2, .int x2_14), (3, .int x3_14)] → W p l e rm_X11_astray s m args below meth c H locs 0 0 Q (F0 m 14 ls []) := by
      intro n
      induction n with
      | zero =>
        intro x2_14 x3_14 pz_14 pd_14 pn_14 H locs ls h
        rw [f_X11_astray_L14] at h
        exact (sat_none h).elim
      | succ n ih =>
        intro x2_14 x3_14 pz_14 pd_14 pn_14 H locs ls h w hl
        rw [f_X11_astray_L14] at h
        refine lv_iload_n hx hb dX11_astray_14 rfl (lv_at hl 3 rfl) ?_
        refine lv_aload_n hx hb dX11_astray_15 rfl (lv_at hl 0 rfl) ?_
        refine gf_X11_28 hx hb hown hk w.1 0 rfl rfl dX11_astray_16 ?_
        refine gf_X11_209 hx hb hown hk w.1 1 rfl rfl dX11_astray_19 ?_
        refine lv_icmp_ge (tgt := 51) hx hb dX11_astray_22 (by decide) (fun c22 => ?_) (fun c22 => ?_)
        · have h := sat_t c22 h
          exact E14 x2_14 pz_14 pd_14 pn_14 _ _ _ (sat_some h) w (lv_sub hl [2] rfl)
        · have h := sat_f c22 h
          refine lv_iload_n hx hb dX11_astray_25 rfl (lv_at hl 3 rfl) ?_
          refine lv_iload_n hx hb dX11_astray_26 rfl (lv_at hl 1 rfl) ?_
          refine lv_icmp_eq (tgt := 45) hx hb dX11_astray_27 (by decide) (fun c27 => ?_) (fun c27 => ?_)
          · have h := sat_t c27 h
            refine lv_iinc (v := x3_14 + 1) (lv' := [(3, .int (x3_14 + 1)), (0, .ref a0), (1, .int x1), (2, .int x2_14)]) hx hb dX11_astray_45 hl (k := 3) rfl (congrArg (fun z => x3_14 + z) (by decide)) (by decide) rfl (fun ls hl => ?_)
            refine lv_goto (tgt := 14) hx hb dX11_astray_48 (by decide) ?_
            exact ih x2_14 (x3_14 + 1) pz_14 pd_14 pn_14 _ _ _ h w (lv_sub hl [1, 2, 3, 0] rfl)
          · have h := sat_f c27 h
            refine lv_aload_n hx hb dX11_astray_30 rfl (lv_at hl 0 rfl) ?_
            refine gf_X11_67 hx hb hown hk w.1 0 rfl rfl dX11_astray_31 ?_
            refine lv_iload_n hx hb dX11_astray_34 rfl (lv_at hl 3 rfl) ?_
            refine lv_iload_n hx hb dX11_astray_35 rfl (lv_at hl 1 rfl) ?_
            obtain ⟨r_2, e_2, h⟩ := sat_bind h
            refine cMV (rest := []) (wr := [(a0, .inr (11, [.ref a1, .ref a3, .ref a7, .ref a8, .ref a17, .ref a18, .ref a20, .ref a23, .ref a25, .ref a27]))]) (ws' := [(a0, .inr (11, [.ref a1, .ref a3, .ref a7, .ref a8, .ref a17, .ref a18, .ref a20, .ref a23, .ref a25, .ref a27])), (a7, .inr (7, [.int rn, .int re, .int rh, .int ra, .int rl, .int rf])), (a8, .inr (1, [.ref a9, .ref a11, .ref a12, .ref a13, .ref a14, .ref a15, .ref a16, .int wz, .int tm])), (a9, .inr (3, [.ref a10, .int lt])), (a10, .inl (cI, 36, .inl dl)), (a12, .inl (cI, 216, .inl gs)), (a13, .inl (cI, 216, .inl md)), (a17, .inr (5, [.ref a7, .ref a8])), (a23, .inr (10, [.ref a17, .ref a24, .int r_2.2.1, .int r_2.2.2.1])), (a24, .inl (cI, 6, .inl r_2.2.2.2))]) hx hb hml hown hk w hA (k_X10_follow l D cI cZ cK N a23 a17 a24 a7 a8 a9 a11 a12 a13 a14 a15 a16 a10 pz_14 pd_14 rn re rh ra rl rf wz tm lt dl gs md pn_14 x3_14 x1 r_2 e_2) (me_X10_follow hk.2.1) (mi_X10_follow hk.2.1) (ml_X11_202 hk.2.1) ((pmn 10 [8, 7, 1, 2, 3, 4, 5, 6, 9, 0] rfl rfl (by decide))) ((pmn 10 [9, 2, 3, 4, 5, 6, 7, 1, 0, 8] rfl rfl (by decide))) 0 rfl rfl rfl hl.1 rfl rfl (Nat.le_of_ble_eq_true rfl) ⟨rfl, rfl, Nat.le_of_ble_eq_true rfl, Nat.le_of_ble_eq_true rfl, Nat.zero_le _, Nat.zero_le _⟩ dX11_astray_36 (fun H locs w => ?_)
            refine W.eq (g2 := F0 m 39 ls [.int (b2i r_2.1)]) rfl ?_
            refine lv_if_ne (tgt := 45) hx hb dX11_astray_39 (by decide) (fun c39 => ?_) (fun c39 => ?_)
            · have h := sat_f c39 h
              refine lv_iinc (v := x3_14 + 1) (lv' := [(3, .int (x3_14 + 1)), (0, .ref a0), (1, .int x1), (2, .int x2_14)]) hx hb dX11_astray_45 hl (k := 3) rfl (congrArg (fun z => x3_14 + z) (by decide)) (by decide) rfl (fun ls hl => ?_)
              refine lv_goto (tgt := 14) hx hb dX11_astray_48 (by decide) ?_
              exact ih x2_14 (x3_14 + 1) r_2.2.1 r_2.2.2.1 r_2.2.2.2 _ _ _ h w (lv_sub hl [1, 2, 3, 0] rfl)
            · have h := sat_t c39 h
              refine lv_iinc (v := x2_14 + 1) (lv' := [(2, .int (x2_14 + 1)), (0, .ref a0), (1, .int x1), (3, .int x3_14)]) hx hb dX11_astray_42 hl (k := 2) rfl (congrArg (fun z => x2_14 + z) (by decide)) (by decide) rfl (fun ls hl => ?_)
              refine lv_iinc (v := x3_14 + 1) (lv' := [(3, .int (x3_14 + 1)), (2, .int (x2_14 + 1)), (0, .ref a0), (1, .int x1)]) hx hb dX11_astray_45 hl (k := 3) rfl (congrArg (fun z => x3_14 + z) (by decide)) (by decide) rfl (fun ls hl => ?_)
              refine lv_goto (tgt := 14) hx hb dX11_astray_48 (by decide) ?_
              exact ih (x2_14 + 1) (x3_14 + 1) r_2.2.1 r_2.2.2.1 r_2.2.2.2 _ _ _ h w (lv_sub hl [2, 3, 1, 0] rfl)
    exact L14 N 0 0 pz pd pn _ _ _ h w (lv_sub hl [2, 3, 1, 0] rfl)
  · have h := sat_t c5 h
    refine lv_iconst (v := (-1)) hx hb dX11_astray_8 (by decide) ?_
    have hR := hC0 _ (sat_some h)
    subst hR
    exact hret _ _ _ _ w dX11_astray_9
def f_X11_least (N : Nat) (rn : Int32) (dl : ar) (sm : ar) (sn : Int32) (x1 : Int32) (x2 : Int32) : Option (Int32 × Int32 × ar) := Option.bind (f_X11_isNode rn x1) fun r_1 => if (b2i r_1) = 0 then some ((-1), sn, sm) else Option.bind (f_X11_isNode rn x2) fun r_2 => if (b2i r_2) = 0 then some ((-1), sn, sm) else Option.bind (f_X2_measure N sm dl rn (-1)) fun r_3 => Option.bind (f_X2_between r_3.2 x1 x2) fun r_4 => some (r_4, r_3.1, r_3.2)
abbrev rm_X11_least : Room := { frames := 4, cells := 0, slots := 0, locals := 95 }
set_option maxRecDepth 100000 in
set_option maxHeartbeats 4000000 in
theorem k_X11_least (l : Launch) (D : va_G) (cI cZ cK : ClassId) (N : Nat) (a0 a1 a3 a7 a8 a17 a18 a20 a23 a25 a27 a9 a11 a12 a13 a14 a15 a16 a10 a26 : Nat) (rn : Int32) (re : Int32) (rh : Int32) (ra : Int32) (rl : Int32) (rf : Int32) (wz : Int32) (tm : Int32) (lt : Int32) (dl : ar) (sn : Int32) (sm : ar) (x1 : Int32) (x2 : Int32) (R : Int32 × Int32 × ar) (h : f_X11_least N rn dl sm sn x1 x2 = some R) : Mu l D cI cZ cK yX11_least cX11_least 3 (some .int) rm_X11_least [.ref a0, .int x1, .int x2] [(a0, .inr (11, [.ref a1, .ref a3, .ref a7, .ref a8, .ref a17, .ref a18, .ref a20, .ref a23, .ref a25, .ref a27])), (a7, .inr (7, [.int rn, .int re, .int rh, .int ra, .int rl, .int rf])), (a8, .inr (1, [.ref a9, .ref a11, .ref a12, .ref a13, .ref a14, .ref a15, .ref a16, .int wz, .int tm])), (a9, .inr (3, [.ref a10, .int lt])), (a10, .inl (cI, 36, .inl dl)), (a25, .inr (2, [.ref a26, .int sn])), (a26, .inl (cI, 36, .inl sm))] (some (.int R.1)) [(a0, .inr (11, [.ref a1, .ref a3, .ref a7, .ref a8, .ref a17, .ref a18, .ref a20, .ref a23, .ref a25, .ref a27])), (a7, .inr (7, [.int rn, .int re, .int rh, .int ra, .int rl, .int rf])), (a8, .inr (1, [.ref a9, .ref a11, .ref a12, .ref a13, .ref a14, .ref a15, .ref a16, .int wz, .int tm])), (a9, .inr (3, [.ref a10, .int lt])), (a10, .inl (cI, 36, .inl dl)), (a25, .inr (2, [.ref a26, .int R.2.1])), (a26, .inl (cI, 36, .inl R.2.2))] := by
  refine mi_of (by decide) (vp_nar_int _) (Nat.le_of_ble_eq_true rfl) ?_
  intro p e s m args below meth c Q A ls hx hb hml hown hk hA w hret hl
  have hl : lv_has ls 3 [(0, .ref a0), (1, .int x1), (2, .int x2)] := hl
  obtain ⟨C0, hC0, h⟩ := sat_top h
  unfold f_X11_least at h
  refine lv_aload_n hx hb dX11_least_0 rfl (lv_at hl 0 rfl) ?_
  refine lv_iload_n hx hb dX11_least_1 rfl (lv_at hl 1 rfl) ?_
  obtain ⟨r_1, e_1, h⟩ := sat_bind h
  refine cRV (rest := []) hx hb hml hown hk (k_X11_isNode l D cI cZ cK a0 a1 a3 a7 a8 a17 a18 a20 a23 a25 a27 rn re rh ra rl rf x1 r_1 e_1) (me_X11_isNode hk.2.1) (mi_X11_isNode hk.2.1) (ml_X11_181 hk.2.1) (w.1.sub [0, 1] rfl) 0 rfl rfl rfl hl.1 rfl rfl (Nat.le_of_ble_eq_true rfl) ⟨rfl, rfl, Nat.le_of_ble_eq_true rfl, Nat.le_of_ble_eq_true rfl, Nat.zero_le _, Nat.zero_le _⟩ dX11_least_2 ?_
  refine lv_if_eq (tgt := 16) hx hb dX11_least_5 (by decide) (fun c5 => ?_) (fun c5 => ?_)
  · have h := sat_t c5 h
    refine lv_iconst (v := (-1)) hx hb dX11_least_16 (by decide) ?_
    have hR := hC0 _ (sat_some h)
    subst hR
    exact hret _ _ _ _ w dX11_least_17
  · have h := sat_f c5 h
    refine lv_aload_n hx hb dX11_least_8 rfl (lv_at hl 0 rfl) ?_
    refine lv_iload_n hx hb dX11_least_9 rfl (lv_at hl 2 rfl) ?_
    obtain ⟨r_2, e_2, h⟩ := sat_bind h
    refine cRV (rest := []) hx hb hml hown hk (k_X11_isNode l D cI cZ cK a0 a1 a3 a7 a8 a17 a18 a20 a23 a25 a27 rn re rh ra rl rf x2 r_2 e_2) (me_X11_isNode hk.2.1) (mi_X11_isNode hk.2.1) (ml_X11_181 hk.2.1) (w.1.sub [0, 1] rfl) 0 rfl rfl rfl hl.1 rfl rfl (Nat.le_of_ble_eq_true rfl) ⟨rfl, rfl, Nat.le_of_ble_eq_true rfl, Nat.le_of_ble_eq_true rfl, Nat.zero_le _, Nat.zero_le _⟩ dX11_least_10 ?_
    refine lv_if_ne (tgt := 18) hx hb dX11_least_13 (by decide) (fun c13 => ?_) (fun c13 => ?_)
    · have h := sat_f c13 h
      refine lv_aload_n hx hb dX11_least_18 rfl (lv_at hl 0 rfl) ?_
      refine gf_X11_74 hx hb hown hk w.1 0 rfl rfl dX11_least_19 ?_
      refine lv_aload_n hx hb dX11_least_22 rfl (lv_at hl 0 rfl) ?_
      refine gf_X11_35 hx hb hown hk w.1 0 rfl rfl dX11_least_23 ?_
      refine gf_X11_118 hx hb hown hk w.1 2 rfl rfl dX11_least_26 ?_
      refine lv_aload_n hx hb dX11_least_29 rfl (lv_at hl 0 rfl) ?_
      refine gf_X11_28 hx hb hown hk w.1 0 rfl rfl dX11_least_30 ?_
      refine gf_X11_209 hx hb hown hk w.1 1 rfl rfl dX11_least_33 ?_
      refine lv_iconst (v := (-1)) hx hb dX11_least_36 (by decide) ?_
      obtain ⟨r_3, e_3, h⟩ := sat_bind h
      refine cMV (rest := []) (wr := [(a0, .inr (11, [.ref a1, .ref a3, .ref a7, .ref a8, .ref a17, .ref a18, .ref a20, .ref a23, .ref a25, .ref a27])), (a7, .inr (7, [.int rn, .int re, .int rh, .int ra, .int rl, .int rf])), (a8, .inr (1, [.ref a9, .ref a11, .ref a12, .ref a13, .ref a14, .ref a15, .ref a16, .int wz, .int tm]))]) (ws' := [(a0, .inr (11, [.ref a1, .ref a3, .ref a7, .ref a8, .ref a17, .ref a18, .ref a20, .ref a23, .ref a25, .ref a27])), (a7, .inr (7, [.int rn, .int re, .int rh, .int ra, .int rl, .int rf])), (a8, .inr (1, [.ref a9, .ref a11, .ref a12, .ref a13, .ref a14, .ref a15, .ref a16, .int wz, .int tm])), (a9, .inr (3, [.ref a10, .int lt])), (a10, .inl (cI, 36, .inl dl)), (a25, .inr (2, [.ref a26, .int r_3.1])), (a26, .inl (cI, 36, .inl r_3.2))]) hx hb hml hown hk w hA (k_X2_measure l D cI cZ cK N a25 a26 a9 a10 sn sm lt dl rn (-1) r_3 e_3) (me_X2_measure hk.2.1) (mi_X2_measure hk.2.1) (ml_X11_211 hk.2.1) ((pmn 7 [5, 6, 3, 4, 0, 1, 2] rfl rfl (by decide))) ((pmn 7 [4, 5, 6, 2, 3, 0, 1] rfl rfl (by decide))) 0 rfl rfl rfl hl.1 rfl rfl (Nat.le_of_ble_eq_true rfl) ⟨rfl, rfl, Nat.le_of_ble_eq_true rfl, Nat.le_of_ble_eq_true rfl, Nat.zero_le _, Nat.zero_le _⟩ dX11_least_37 (fun H locs w => ?_)
      refine W.eq (g2 := F0 m 40 ls []) rfl ?_
      refine lv_aload_n hx hb dX11_least_40 rfl (lv_at hl 0 rfl) ?_
      refine gf_X11_74 hx hb hown hk w.1 0 rfl rfl dX11_least_41 ?_
      refine lv_iload_n hx hb dX11_least_44 rfl (lv_at hl 1 rfl) ?_
      refine lv_iload_n hx hb dX11_least_45 rfl (lv_at hl 2 rfl) ?_
      obtain ⟨r_4, e_4, h⟩ := sat_bind h
      refine cRV (rest := []) hx hb hml hown hk (k_X2_between l D cI cZ cK a25 a26 r_3.1 r_3.2 x1 x2 r_4 e_4) (me_X2_between hk.2.1) (mi_X2_between hk.2.1) (ml_X11_215 hk.2.1) (w.1.sub [5, 6] rfl) 0 rfl rfl rfl hl.1 rfl rfl (Nat.le_of_ble_eq_true rfl) ⟨rfl, rfl, Nat.le_of_ble_eq_true rfl, Nat.le_of_ble_eq_true rfl, Nat.zero_le _, Nat.zero_le _⟩ dX11_least_46 ?_
      have hR := hC0 _ (sat_some h)
      subst hR
      exact hret _ _ _ _ w dX11_least_49
    · have h := sat_t c13 h
      refine lv_iconst (v := (-1)) hx hb dX11_least_16 (by decide) ?_
      have hR := hC0 _ (sat_some h)
      subst hR
      exact hret _ _ _ _ w dX11_least_17
def f_X11_right_L39 (rn : Int32) (ra : Int32) (rf : Int32) (dl : ar) (gs : ar) (md : ar) (tm : Int32) (N : Nat) (r_1 : Int32 × ar) (x2_26 : Int32) : Nat → Int32 → Int32 → Int32 → Int32 → ar → Option (Int32 × Int32 × Int32 × ar)
  | 0, _, _, _, _, _ => none
  | n + 1, x1_39, x3_39, pz_39, pd_39, pn_39 => if rn ≤ x3_39 then some (x1_39, pz_39, pd_39, pn_39) else if x2_26 = x3_39 then f_X11_right_L39 rn ra rf dl gs md tm N r_1 x2_26 n x1_39 (x3_39 + 1) pz_39 pd_39 pn_39 else Option.bind (f_X10_follow N rn ra rf dl gs md tm pn_39 pz_39 x2_26 x3_39) fun r_2 => if (b2i r_2.1) = 0 then f_X11_right_L39 rn ra rf dl gs md tm N r_1 x2_26 n x1_39 (x3_39 + 1) r_2.2.1 r_2.2.2.1 r_2.2.2.2 else Option.bind (f_X2_between r_1.2 x2_26 x3_39) fun r_3 => if r_2.2.2.1 = r_3 then f_X11_right_L39 rn ra rf dl gs md tm N r_1 x2_26 n (x1_39 + 1) (x3_39 + 1) r_2.2.1 r_2.2.2.1 r_2.2.2.2 else f_X11_right_L39 rn ra rf dl gs md tm N r_1 x2_26 n x1_39 (x3_39 + 1) r_2.2.1 r_2.2.2.1 r_2.2.2.2
def f_X11_right_L26 (rn : Int32) (ra : Int32) (rf : Int32) (dl : ar) (gs : ar) (md : ar) (tm : Int32) (N : Nat) (r_1 : Int32 × ar) : Nat → Int32 → Int32 → Int32 → Int32 → ar → Option (Int32 × Int32 × Int32 × ar)
  | 0, _, _, _, _, _ => none
  | n + 1, x1_26, x2_26, pz_26, pd_26, pn_26 => if rn ≤ x2_26 then some (x1_26, pz_26, pd_26, pn_26) else Option.bind (f_X11_right_L39 rn ra rf dl gs md tm N r_1 x2_26 N x1_26 0 pz_26 pd_26 pn_26) fun s39 => f_X11_right_L26 rn ra rf dl gs md tm N r_1 n s39.1 (x2_26 + 1) s39.2.1 s39.2.2.1 s39.2.2.2
def f_X11_right (N : Nat) (rn : Int32) (ra : Int32) (rf : Int32) (dl : ar) (gs : ar) (md : ar) (tm : Int32) (pn : ar) (pz : Int32) (pd : Int32) (sm : ar) : Option (Int32 × Int32 × Int32 × ar × Int32 × ar) := Option.bind (f_X2_measure N sm dl rn (-1)) fun r_1 => Option.bind (f_X11_right_L26 rn ra rf dl gs md tm N r_1 N 0 0 pz pd pn) fun s26 => some (s26.1, s26.2.1, s26.2.2.1, s26.2.2.2, r_1.1, r_1.2)
abbrev rm_X11_right : Room := { frames := 4, cells := 0, slots := 0, locals := 95 }
set_option maxRecDepth 100000 in
set_option maxHeartbeats 4000000 in
theorem k_X11_right (l : Launch) (D : va_G) (cI cZ cK : ClassId) (N : Nat) (a0 a1 a3 a7 a8 a17 a18 a20 a23 a25 a27 a9 a11 a12 a13 a14 a15 a16 a10 a24 a26 : Nat) (rn : Int32) (re : Int32) (rh : Int32) (ra : Int32) (rl : Int32) (rf : Int32) (wz : Int32) (tm : Int32) (lt : Int32) (dl : ar) (gs : ar) (md : ar) (pz : Int32) (pd : Int32) (pn : ar) (sn : Int32) (sm : ar) (R : Int32 × Int32 × Int32 × ar × Int32 × ar) (h : f_X11_right N rn ra rf dl gs md tm pn pz pd sm = some R) : Mu l D cI cZ cK yX11_right cX11_right 4 (some .int) rm_X11_right [.ref a0] [(a0, .inr (11, [.ref a1, .ref a3, .ref a7, .ref a8, .ref a17, .ref a18, .ref a20, .ref a23, .ref a25, .ref a27])), (a7, .inr (7, [.int rn, .int re, .int rh, .int ra, .int rl, .int rf])), (a8, .inr (1, [.ref a9, .ref a11, .ref a12, .ref a13, .ref a14, .ref a15, .ref a16, .int wz, .int tm])), (a9, .inr (3, [.ref a10, .int lt])), (a10, .inl (cI, 36, .inl dl)), (a12, .inl (cI, 216, .inl gs)), (a13, .inl (cI, 216, .inl md)), (a17, .inr (5, [.ref a7, .ref a8])), (a23, .inr (10, [.ref a17, .ref a24, .int pz, .int pd])), (a24, .inl (cI, 6, .inl pn)), (a25, .inr (2, [.ref a26, .int sn])), (a26, .inl (cI, 36, .inl sm))] (some (.int R.1)) [(a0, .inr (11, [.ref a1, .ref a3, .ref a7, .ref a8, .ref a17, .ref a18, .ref a20, .ref a23, .ref a25, .ref a27])), (a7, .inr (7, [.int rn, .int re, .int rh, .int ra, .int rl, .int rf])), (a8, .inr (1, [.ref a9, .ref a11, .ref a12, .ref a13, .ref a14, .ref a15, .ref a16, .int wz, .int tm])), (a9, .inr (3, [.ref a10, .int lt])), (a10, .inl (cI, 36, .inl dl)), (a12, .inl (cI, 216, .inl gs)), (a13, .inl (cI, 216, .inl md)), (a17, .inr (5, [.ref a7, .ref a8])), (a23, .inr (10, [.ref a17, .ref a24, .int R.2.1, .int R.2.2.1])), (a24, .inl (cI, 6, .inl R.2.2.2.1)), (a25, .inr (2, [.ref a26, .int R.2.2.2.2.1])), (a26, .inl (cI, 36, .inl R.2.2.2.2.2))] := by
  refine mi_of (by decide) (vp_nar_int _) (Nat.le_of_ble_eq_true rfl) ?_
  intro p e s m args below meth c Q A ls hx hb hml hown hk hA w hret hl
  have hl : lv_has ls 4 [(0, .ref a0)] := hl
  obtain ⟨C0, hC0, h⟩ := sat_top h
  unfold f_X11_right at h
  refine lv_aload_n hx hb dX11_right_0 rfl (lv_at hl 0 rfl) ?_
  refine gf_X11_74 hx hb hown hk w.1 0 rfl rfl dX11_right_1 ?_
  refine lv_aload_n hx hb dX11_right_4 rfl (lv_at hl 0 rfl) ?_
  refine gf_X11_35 hx hb hown hk w.1 0 rfl rfl dX11_right_5 ?_
  refine gf_X11_118 hx hb hown hk w.1 2 rfl rfl dX11_right_8 ?_
  refine lv_aload_n hx hb dX11_right_11 rfl (lv_at hl 0 rfl) ?_
  refine gf_X11_28 hx hb hown hk w.1 0 rfl rfl dX11_right_12 ?_
  refine gf_X11_209 hx hb hown hk w.1 1 rfl rfl dX11_right_15 ?_
  refine lv_iconst (v := (-1)) hx hb dX11_right_18 (by decide) ?_
  obtain ⟨r_1, e_1, h⟩ := sat_bind h
  refine cMV (rest := []) (wr := [(a0, .inr (11, [.ref a1, .ref a3, .ref a7, .ref a8, .ref a17, .ref a18, .ref a20, .ref a23, .ref a25, .ref a27])), (a7, .inr (7, [.int rn, .int re, .int rh, .int ra, .int rl, .int rf])), (a8, .inr (1, [.ref a9, .ref a11, .ref a12, .ref a13, .ref a14, .ref a15, .ref a16, .int wz, .int tm])), (a12, .inl (cI, 216, .inl gs)), (a13, .inl (cI, 216, .inl md)), (a17, .inr (5, [.ref a7, .ref a8])), (a23, .inr (10, [.ref a17, .ref a24, .int pz, .int pd])), (a24, .inl (cI, 6, .inl pn))]) (ws' := [(a0, .inr (11, [.ref a1, .ref a3, .ref a7, .ref a8, .ref a17, .ref a18, .ref a20, .ref a23, .ref a25, .ref a27])), (a7, .inr (7, [.int rn, .int re, .int rh, .int ra, .int rl, .int rf])), (a8, .inr (1, [.ref a9, .ref a11, .ref a12, .ref a13, .ref a14, .ref a15, .ref a16, .int wz, .int tm])), (a9, .inr (3, [.ref a10, .int lt])), (a10, .inl (cI, 36, .inl dl)), (a12, .inl (cI, 216, .inl gs)), (a13, .inl (cI, 216, .inl md)), (a17, .inr (5, [.ref a7, .ref a8])), (a23, .inr (10, [.ref a17, .ref a24, .int pz, .int pd])), (a24, .inl (cI, 6, .inl pn)), (a25, .inr (2, [.ref a26, .int r_1.1])), (a26, .inl (cI, 36, .inl r_1.2))]) hx hb hml hown hk w hA (k_X2_measure l D cI cZ cK N a25 a26 a9 a10 sn sm lt dl rn (-1) r_1 e_1) (me_X2_measure hk.2.1) (mi_X2_measure hk.2.1) (ml_X11_211 hk.2.1) ((pmn 12 [10, 11, 3, 4, 0, 1, 2, 5, 6, 7, 8, 9] rfl rfl (by decide))) ((pmn 12 [4, 5, 6, 2, 3, 7, 8, 9, 10, 11, 0, 1] rfl rfl (by decide))) 0 rfl rfl rfl hl.1 rfl rfl (Nat.le_of_ble_eq_true rfl) ⟨rfl, rfl, Nat.le_of_ble_eq_true rfl, Nat.le_of_ble_eq_true rfl, Nat.zero_le _, Nat.zero_le _⟩ dX11_right_19 (fun H locs w => ?_)
  refine W.eq (g2 := F0 m 22 ls []) rfl ?_
  refine lv_iconst (v := 0) hx hb dX11_right_22 (by decide) ?_
  refine lv_istore_n (lv' := [(1, .int 0), (0, .ref a0)]) hx hb dX11_right_23 rfl hl (by decide) rfl (fun ls hl => ?_)
  refine lv_iconst (v := 0) hx hb dX11_right_24 (by decide) ?_
  refine lv_istore_n (lv' := [(2, .int 0), (1, .int 0), (0, .ref a0)]) hx hb dX11_right_25 rfl hl (by decide) rfl (fun ls hl => ?_)
  obtain ⟨T26, hT26, h⟩ := sat_reg h
  have E26 : ∀ (e1_8 : Int32) (pz_9 : Int32) (pd_10 : Int32) (pn_11 : ar) (H : Heap) (locs : List Loc) (ls : Array Slot), T26 (e1_8, pz_9, pd_10, pn_11) → wd D A s.heap H locs [(a0, .inr (11, [.ref a1, .ref a3, .ref a7, .ref a8, .ref a17, .ref a18, .ref a20, .ref a23, .ref a25, .ref a27])), (a7, .inr (7, [.int rn, .int re, .int rh, .int ra, .int rl, .int rf])), (a8, .inr (1, [.ref a9, .ref a11, .ref a12, .ref a13, .ref a14, .ref a15, .ref a16, .int wz, .int tm])), (a9, .inr (3, [.ref a10, .int lt])), (a10, .inl (cI, 36, .inl dl)), (a12, .inl (cI, 216, .inl gs)), (a13, .inl (cI, 216, .inl md)), (a17, .inr (5, [.ref a7, .ref a8])), (a23, .inr (10, [.ref a17, .ref a24, .int pz_9, .int pd_10])), (a24, .inl (cI, 6, .inl pn_11)), (a25, .inr (2, [.ref a26, .int r_1.1])), (a26, .inl (cI, 36, .inl r_1.2))] → lv_has ls 4 [(1, .int e1_8)] → W p l e rm_X11_right s m args below meth c H locs 0 0 Q (F0 m 101 ls []) := by
    intro e1_8 pz_9 pd_10 pn_11 H locs ls h w hl
    have h := hT26 _ h
    dsimp only at h
    refine lv_iload_n hx hb dX11_right_101 rfl (lv_at hl 0 rfl) ?_
    have hR := hC0 _ (sat_some h)
    subst hR
    exact hret _ _ _ _ w dX11_right_102
  have L26 : ∀ (n : Nat) (x1_26 : Int32) (x2_26 : Int32) (pz_26 : Int32) (pd_26 : Int32) (pn_26 : ar) (H : Heap) (locs : List Loc) (ls : Array Slot), sat (f_X11_right_L26 rn ra rf dl gs md tm N r_1 n x1_26 x2_26 pz_26 pd_26 pn_26) T26 → wd D A s.heap H locs [(a0, .inr (11, [.ref a1, .ref a3, .ref a7, .ref a8, .ref a17, .ref a18, .ref a20, .ref a23, .ref a25, .ref a27])), (a7, .inr (7, [.int rn, .int re, .int rh, .int ra, .int rl, .int rf])), (a8, .inr (1, [.ref a9, .ref a11, .ref a12, .ref a13, .ref a14, .ref a15, .ref a16, .int wz, .int tm])), (a9, .inr (3, [.ref a10, .int lt])), (a10, .inl (cI, 36, .inl dl)), (a12, .inl (cI, 216, .inl gs)), (a13, .inl (cI, 216, .inl md)), (a17, .inr (5, [.ref a7, .ref a8])), (a23, .inr (10, [.ref a17, .ref a24, .int pz_26, .int pd_26])), (a24, .inl (cI, 6, .inl pn_26)), (a25, .inr (2, [.ref a26, .int r_1.1])), (a26, .inl (cI, 36, .inl r_1.2))] → lv_has ls 4 [(0, .ref a0), (1, .int x1_26), (2, .int x2_26)] → W p l e rm_X11_right s m args below meth c H locs 0 0 Q (F0 m 26 ls []) := by
    intro n
    induction n with
    | zero =>
      intro x1_26 x2_26 pz_26 pd_26 pn_26 H locs ls h
      rw [f_X11_right_L26] at h
      exact (sat_none h).elim
    | succ n ih =>
      intro x1_26 x2_26 pz_26 pd_26 pn_26 H locs ls h w hl
      rw [f_X11_right_L26] at h
      refine lv_iload_n hx hb dX11_right_26 rfl (lv_at hl 2 rfl) ?_
      refine lv_aload_n hx hb dX11_right_27 rfl (lv_at hl 0 rfl) ?_
      refine gf_X11_28 hx hb hown hk w.1 0 rfl rfl dX11_right_28 ?_
      refine gf_X11_209 hx hb hown hk w.1 1 rfl rfl dX11_right_31 ?_
      refine lv_icmp_ge (tgt := 101) hx hb dX11_right_34 (by decide) (fun c34 => ?_) (fun c34 => ?_)
      · have h := sat_t c34 h
        exact E26 x1_26 pz_26 pd_26 pn_26 _ _ _ (sat_some h) w (lv_sub hl [1] rfl)
      · have h := sat_f c34 h
        refine lv_iconst (v := 0) hx hb dX11_right_37 (by decide) ?_
        refine lv_istore_n (lv' := [(3, .int 0), (0, .ref a0), (1, .int x1_26), (2, .int x2_26)]) hx hb dX11_right_38 rfl hl (by decide) rfl (fun ls hl => ?_)
        obtain ⟨T39, hT39, h⟩ := sat_reg h
        have E39 : ∀ (e1_4 : Int32) (pz_5 : Int32) (pd_6 : Int32) (pn_7 : ar) (H : Heap) (locs : List Loc) (ls : Array Slot), T39 (e1_4, pz_5, pd_6, pn_7) → wd D A s.heap H locs [(a0, .inr (11, [.ref a1, .ref a3, .ref a7, .ref a8, .ref a17, .ref a18, .ref a20, .ref a23, .ref a25, .ref a27])), (a7, .inr (7, [.int rn, .int re, .int rh, .int ra, .int rl, .int rf])), (a8, .inr (1, [.ref a9, .ref a11, .ref a12, .ref a13, .ref a14, .ref a15, .ref a16, .int wz, .int tm])), (a9, .inr (3, [.ref a10, .int lt])), (a10, .inl (cI, 36, .inl dl)), (a12, .inl (cI, 216, .inl gs)), (a13, .inl (cI, 216, .inl md)), (a17, .inr (5, [.ref a7, .ref a8])), (a23, .inr (10, [.ref a17, .ref a24, .int pz_5, .int pd_6])), (a24, .inl (cI, 6, .inl pn_7)), (a25, .inr (2, [.ref a26, .int r_1.1])), (a26, .inl (cI, 36, .inl r_1.2))] → lv_has ls 4 [(0, .ref a0), (1, .int e1_4), (2, .int x2_26)] → W p l e rm_X11_right s m args below meth c H locs 0 0 Q (F0 m 95 ls []) := by
          intro e1_4 pz_5 pd_6 pn_7 H locs ls h w hl
          have h := hT39 _ h
          dsimp only at h
          refine lv_iinc (v := x2_26 + 1) (lv' := [(2, .int (x2_26 + 1)), (0, .ref a0), (1, .int e1_4)]) hx hb dX11_right_95 hl (k := 2) rfl (congrArg (fun z => x2_26 + z) (by decide)) (by decide) rfl (fun ls hl => ?_)
          refine lv_goto (tgt := 26) hx hb dX11_right_98 (by decide) ?_
          exact ih e1_4 (x2_26 + 1) pz_5 pd_6 pn_7 _ _ _ h w (lv_sub hl [1, 2, 0] rfl)
        have L39 : ∀ (n : Nat) (x1_39 : Int32) (x3_39 : Int32) (pz_39 : Int32) (pd_39 : Int32) (pn_39 : ar) (H : Heap) (locs : List Loc) (ls : Array Slot), sat (f_X11_right_L39 rn ra rf dl gs md tm N r_1 x2_26 n x1_39 x3_39 pz_39 pd_39 pn_39) T39 → wd D A s.heap H locs [(a0, .inr (11, [.ref a1, .ref a3, .ref a7, .ref a8, .ref a17, .ref a18, .ref a20, .ref a23, .ref a25, .ref a27])), (a7, .inr (7, [.int rn, .int re, .int rh, .int ra, .int rl, .int rf])), (a8, .inr (1, [.ref a9, .ref a11, .ref a12, .ref a13, .ref a14, .ref a15, .ref a16, .int wz, .int tm])), (a9, .inr (3, [.ref a10, .int lt])), (a10, .inl (cI, 36, .inl dl)), (a12, .inl (cI, 216, .inl gs)), (a13, .inl (cI, 216, .inl md)), (a17, .inr (5, [.ref a7, .ref a8])), (a23, .inr (10, [.ref a17, .ref a24, .int pz_39, .int pd_39])), (a24, .inl (cI, 6, .inl pn_39)), (a25, .inr (2, [.ref a26, .int r_1.1])), (a26, .inl (cI, 36, .inl r_1.2))] → lv_has ls 4 [(0, .ref a0), (1, .int x1_39), (2, .int x2_26), (3, .int x3_39)] → W p l e rm_X11_right s m args below meth c H locs 0 0 Q (F0 m 39 ls []) := by
          intro n
          induction n with
          | zero =>
            intro x1_39 x3_39 pz_39 pd_39 pn_39 H locs ls h
            rw [f_X11_right_L39] at h
            exact (sat_none h).elim
          | succ n ih =>
            intro x1_39 x3_39 pz_39 pd_39 pn_39 H locs ls h w hl
            rw [f_X11_right_L39] at h
            refine lv_iload_n hx hb dX11_right_39 rfl (lv_at hl 3 rfl) ?_
            refine lv_aload_n hx hb dX11_right_40 rfl (lv_at hl 0 rfl) ?_
            refine gf_X11_28 hx hb hown hk w.1 0 rfl rfl dX11_right_41 ?_
            refine gf_X11_209 hx hb hown hk w.1 1 rfl rfl dX11_right_44 ?_
            refine lv_icmp_ge (tgt := 95) hx hb dX11_right_47 (by decide) (fun c47 => ?_) (fun c47 => ?_)
            · have h := sat_t c47 h
              exact E39 x1_39 pz_39 pd_39 pn_39 _ _ _ (sat_some h) w (lv_sub hl [0, 1, 2] rfl)
            · have h := sat_f c47 h
              refine lv_iload_n hx hb dX11_right_50 rfl (lv_at hl 2 rfl) ?_
              refine lv_iload_n hx hb dX11_right_51 rfl (lv_at hl 3 rfl) ?_
              refine lv_icmp_eq (tgt := 89) hx hb dX11_right_52 (by decide) (fun c52 => ?_) (fun c52 => ?_)
              · have h := sat_t c52 h
                refine lv_iinc (v := x3_39 + 1) (lv' := [(3, .int (x3_39 + 1)), (0, .ref a0), (1, .int x1_39), (2, .int x2_26)]) hx hb dX11_right_89 hl (k := 3) rfl (congrArg (fun z => x3_39 + z) (by decide)) (by decide) rfl (fun ls hl => ?_)
                refine lv_goto (tgt := 39) hx hb dX11_right_92 (by decide) ?_
                exact ih x1_39 (x3_39 + 1) pz_39 pd_39 pn_39 _ _ _ h w (lv_sub hl [1, 2, 3, 0] rfl)
              · have h := sat_f c52 h
                refine lv_aload_n hx hb dX11_right_55 rfl (lv_at hl 0 rfl) ?_
                refine gf_X11_67 hx hb hown hk w.1 0 rfl rfl dX11_right_56 ?_
                refine lv_iload_n hx hb dX11_right_59 rfl (lv_at hl 2 rfl) ?_
                refine lv_iload_n hx hb dX11_right_60 rfl (lv_at hl 3 rfl) ?_
                obtain ⟨r_2, e_2, h⟩ := sat_bind h
                refine cMV (rest := []) (wr := [(a0, .inr (11, [.ref a1, .ref a3, .ref a7, .ref a8, .ref a17, .ref a18, .ref a20, .ref a23, .ref a25, .ref a27])), (a25, .inr (2, [.ref a26, .int r_1.1])), (a26, .inl (cI, 36, .inl r_1.2))]) (ws' := [(a0, .inr (11, [.ref a1, .ref a3, .ref a7, .ref a8, .ref a17, .ref a18, .ref a20, .ref a23, .ref a25, .ref a27])), (a7, .inr (7, [.int rn, .int re, .int rh, .int ra, .int rl, .int rf])), (a8, .inr (1, [.ref a9, .ref a11, .ref a12, .ref a13, .ref a14, .ref a15, .ref a16, .int wz, .int tm])), (a9, .inr (3, [.ref a10, .int lt])), (a10, .inl (cI, 36, .inl dl)), (a12, .inl (cI, 216, .inl gs)), (a13, .inl (cI, 216, .inl md)), (a17, .inr (5, [.ref a7, .ref a8])), (a23, .inr (10, [.ref a17, .ref a24, .int r_2.2.1, .int r_2.2.2.1])), (a24, .inl (cI, 6, .inl r_2.2.2.2)), (a25, .inr (2, [.ref a26, .int r_1.1])), (a26, .inl (cI, 36, .inl r_1.2))]) hx hb hml hown hk w hA (k_X10_follow l D cI cZ cK N a23 a17 a24 a7 a8 a9 a11 a12 a13 a14 a15 a16 a10 pz_39 pd_39 rn re rh ra rl rf wz tm lt dl gs md pn_39 x2_26 x3_39 r_2 e_2) (me_X10_follow hk.2.1) (mi_X10_follow hk.2.1) (ml_X11_202 hk.2.1) ((pmn 12 [8, 7, 1, 2, 3, 4, 5, 6, 9, 0, 10, 11] rfl rfl (by decide))) ((pmn 12 [9, 2, 3, 4, 5, 6, 7, 1, 0, 8, 10, 11] rfl rfl (by decide))) 0 rfl rfl rfl hl.1 rfl rfl (Nat.le_of_ble_eq_true rfl) ⟨rfl, rfl, Nat.le_of_ble_eq_true rfl, Nat.le_of_ble_eq_true rfl, Nat.zero_le _, Nat.zero_le _⟩ dX11_right_61 (fun H locs w => ?_)
                refine W.eq (g2 := F0 m 64 ls [.int (b2i r_2.1)]) rfl ?_
                refine lv_if_eq (tgt := 89) hx hb dX11_right_64 (by decide) (fun c64 => ?_) (fun c64 => ?_)
                · have h := sat_t c64 h
                  refine lv_iinc (v := x3_39 + 1) (lv' := [(3, .int (x3_39 + 1)), (0, .ref a0), (1, .int x1_39), (2, .int x2_26)]) hx hb dX11_right_89 hl (k := 3) rfl (congrArg (fun z => x3_39 + z) (by decide)) (by decide) rfl (fun ls hl => ?_)
                  refine lv_goto (tgt := 39) hx hb dX11_right_92 (by decide) ?_
                  exact ih x1_39 (x3_39 + 1) r_2.2.1 r_2.2.2.1 r_2.2.2.2 _ _ _ h w (lv_sub hl [1, 2, 3, 0] rfl)
                · have h := sat_f c64 h
                  refine lv_aload_n hx hb dX11_right_67 rfl (lv_at hl 0 rfl) ?_
                  refine gf_X11_67 hx hb hown hk w.1 0 rfl rfl dX11_right_68 ?_
                  refine gf_X11_218 hx hb hown hk w.1 8 rfl rfl dX11_right_71 ?_
                  refine lv_aload_n hx hb dX11_right_74 rfl (lv_at hl 0 rfl) ?_
                  refine gf_X11_74 hx hb hown hk w.1 0 rfl rfl dX11_right_75 ?_
                  refine lv_iload_n hx hb dX11_right_78 rfl (lv_at hl 2 rfl) ?_
                  refine lv_iload_n hx hb dX11_right_79 rfl (lv_at hl 3 rfl) ?_
                  obtain ⟨r_3, e_3, h⟩ := sat_bind h
                  refine cRV (rest := [.int r_2.2.2.1]) hx hb hml hown hk (k_X2_between l D cI cZ cK a25 a26 r_1.1 r_1.2 x2_26 x3_39 r_3 e_3) (me_X2_between hk.2.1) (mi_X2_between hk.2.1) (ml_X11_215 hk.2.1) (w.1.sub [10, 11] rfl) 0 rfl rfl rfl hl.1 rfl rfl (Nat.le_of_ble_eq_true rfl) ⟨rfl, rfl, Nat.le_of_ble_eq_true rfl, Nat.le_of_ble_eq_true rfl, Nat.zero_le _, Nat.zero_le _⟩ dX11_right_80 ?_
                  refine lv_icmp_ne (tgt := 89) hx hb dX11_right_83 (by decide) (fun c83 => ?_) (fun c83 => ?_)
                  · have h := sat_f c83 h
                    refine lv_iinc (v := x3_39 + 1) (lv' := [(3, .int (x3_39 + 1)), (0, .ref a0), (1, .int x1_39), (2, .int x2_26)]) hx hb dX11_right_89 hl (k := 3) rfl (congrArg (fun z => x3_39 + z) (by decide)) (by decide) rfl (fun ls hl => ?_)
                    refine lv_goto (tgt := 39) hx hb dX11_right_92 (by decide) ?_
                    exact ih x1_39 (x3_39 + 1) r_2.2.1 r_2.2.2.1 r_2.2.2.2 _ _ _ h w (lv_sub hl [1, 2, 3, 0] rfl)
                  · have h := sat_t c83 h
                    refine lv_iinc (v := x1_39 + 1) (lv' := [(1, .int (x1_39 + 1)), (0, .ref a0), (2, .int x2_26), (3, .int x3_39)]) hx hb dX11_right_86 hl (k := 1) rfl (congrArg (fun z => x1_39 + z) (by decide)) (by decide) rfl (fun ls hl => ?_)
                    refine lv_iinc (v := x3_39 + 1) (lv' := [(3, .int (x3_39 + 1)), (1, .int (x1_39 + 1)), (0, .ref a0), (2, .int x2_26)]) hx hb dX11_right_89 hl (k := 3) rfl (congrArg (fun z => x3_39 + z) (by decide)) (by decide) rfl (fun ls hl => ?_)
                    refine lv_goto (tgt := 39) hx hb dX11_right_92 (by decide) ?_
                    exact ih (x1_39 + 1) (x3_39 + 1) r_2.2.1 r_2.2.2.1 r_2.2.2.2 _ _ _ h w (lv_sub hl [2, 1, 3, 0] rfl)
        exact L39 N x1_26 0 pz_26 pd_26 pn_26 _ _ _ h w (lv_sub hl [1, 2, 3, 0] rfl)
  exact L26 N 0 0 pz pd pn _ _ _ h w (lv_sub hl [2, 1, 0] rfl)
def f_X11_hurt (N : Nat) (rn : Int32) (dl : ar) (lt : Int32) (sm : ar) (sn : Int32) (x1 : Int32) : Option (Int32 × Int32 × ar) := Option.bind (f_X3_pairOf N dl lt x1) fun r_1 => if r_1 = (-1) then some ((-1), sn, sm) else Option.bind (f_X11_hurtWithout N rn dl sm r_1) fun r_2 => some (r_2.1, r_2.2.1, r_2.2.2)
abbrev rm_X11_hurt : Room := { frames := 5, cells := 0, slots := 0, locals := 116 }
set_option maxRecDepth 100000 in
set_option maxHeartbeats 4000000 in
theorem k_X11_hurt (l : Launch) (D : va_G) (cI cZ cK : ClassId) (N : Nat) (a0 a1 a3 a7 a8 a17 a18 a20 a23 a25 a27 a9 a11 a12 a13 a14 a15 a16 a10 a26 : Nat) (rn : Int32) (re : Int32) (rh : Int32) (ra : Int32) (rl : Int32) (rf : Int32) (wz : Int32) (tm : Int32) (lt : Int32) (dl : ar) (sn : Int32) (sm : ar) (x1 : Int32) (R : Int32 × Int32 × ar) (h : f_X11_hurt N rn dl lt sm sn x1 = some R) : Mu l D cI cZ cK yX11_hurt cX11_hurt 3 (some .int) rm_X11_hurt [.ref a0, .int x1] [(a0, .inr (11, [.ref a1, .ref a3, .ref a7, .ref a8, .ref a17, .ref a18, .ref a20, .ref a23, .ref a25, .ref a27])), (a7, .inr (7, [.int rn, .int re, .int rh, .int ra, .int rl, .int rf])), (a8, .inr (1, [.ref a9, .ref a11, .ref a12, .ref a13, .ref a14, .ref a15, .ref a16, .int wz, .int tm])), (a9, .inr (3, [.ref a10, .int lt])), (a10, .inl (cI, 36, .inl dl)), (a25, .inr (2, [.ref a26, .int sn])), (a26, .inl (cI, 36, .inl sm))] (some (.int R.1)) [(a0, .inr (11, [.ref a1, .ref a3, .ref a7, .ref a8, .ref a17, .ref a18, .ref a20, .ref a23, .ref a25, .ref a27])), (a7, .inr (7, [.int rn, .int re, .int rh, .int ra, .int rl, .int rf])), (a8, .inr (1, [.ref a9, .ref a11, .ref a12, .ref a13, .ref a14, .ref a15, .ref a16, .int wz, .int tm])), (a9, .inr (3, [.ref a10, .int lt])), (a10, .inl (cI, 36, .inl dl)), (a25, .inr (2, [.ref a26, .int R.2.1])), (a26, .inl (cI, 36, .inl R.2.2))] := by
  refine mi_of (by decide) (vp_nar_int _) (Nat.le_of_ble_eq_true rfl) ?_
  intro p e s m args below meth c Q A ls hx hb hml hown hk hA w hret hl
  have hl : lv_has ls 3 [(0, .ref a0), (1, .int x1)] := hl
  obtain ⟨C0, hC0, h⟩ := sat_top h
  unfold f_X11_hurt at h
  refine lv_aload_n hx hb dX11_hurt_0 rfl (lv_at hl 0 rfl) ?_
  refine gf_X11_35 hx hb hown hk w.1 0 rfl rfl dX11_hurt_1 ?_
  refine gf_X11_118 hx hb hown hk w.1 2 rfl rfl dX11_hurt_4 ?_
  refine lv_iload_n hx hb dX11_hurt_7 rfl (lv_at hl 1 rfl) ?_
  obtain ⟨r_1, e_1, h⟩ := sat_bind h
  refine cRV (rest := []) hx hb hml hown hk (k_X3_pairOf l D cI cZ cK N a9 a10 lt dl x1 r_1 e_1) (me_X3_pairOf hk.2.1) (mi_X3_pairOf hk.2.1) (ml_X11_119 hk.2.1) (w.1.sub [3, 4] rfl) 0 rfl rfl rfl hl.1 rfl rfl (Nat.le_of_ble_eq_true rfl) ⟨rfl, rfl, Nat.le_of_ble_eq_true rfl, Nat.le_of_ble_eq_true rfl, Nat.zero_le _, Nat.zero_le _⟩ dX11_hurt_8 ?_
  refine lv_istore_n (lv' := [(2, .int r_1), (0, .ref a0), (1, .int x1)]) hx hb dX11_hurt_11 rfl hl (by decide) rfl (fun ls hl => ?_)
  refine lv_iload_n hx hb dX11_hurt_12 rfl (lv_at hl 0 rfl) ?_
  refine lv_iconst (v := (-1)) hx hb dX11_hurt_13 (by decide) ?_
  refine lv_icmp_ne (tgt := 21) hx hb dX11_hurt_14 (by decide) (fun c14 => ?_) (fun c14 => ?_)
  · have h := sat_f c14 h
    refine lv_aload_n hx hb dX11_hurt_21 rfl (lv_at hl 1 rfl) ?_
    refine lv_iload_n hx hb dX11_hurt_22 rfl (lv_at hl 0 rfl) ?_
    obtain ⟨r_2, e_2, h⟩ := sat_bind h
    refine cMV (rest := []) (wr := []) (ws' := [(a0, .inr (11, [.ref a1, .ref a3, .ref a7, .ref a8, .ref a17, .ref a18, .ref a20, .ref a23, .ref a25, .ref a27])), (a7, .inr (7, [.int rn, .int re, .int rh, .int ra, .int rl, .int rf])), (a8, .inr (1, [.ref a9, .ref a11, .ref a12, .ref a13, .ref a14, .ref a15, .ref a16, .int wz, .int tm])), (a9, .inr (3, [.ref a10, .int lt])), (a10, .inl (cI, 36, .inl dl)), (a25, .inr (2, [.ref a26, .int r_2.2.1])), (a26, .inl (cI, 36, .inl r_2.2.2))]) hx hb hml hown hk w hA (k_X11_hurtWithout l D cI cZ cK N a0 a1 a3 a7 a8 a17 a18 a20 a23 a25 a27 a9 a11 a12 a13 a14 a15 a16 a10 a26 rn re rh ra rl rf wz tm lt dl sn sm r_1 r_2 e_2) (me_X11_hurtWithout hk.2.1) (mi_X11_hurtWithout hk.2.1) (ml_X11_220 hk.2.1) ((pmn 7 [0, 1, 2, 3, 4, 5, 6] rfl rfl (by decide))) ((pmn 7 [0, 1, 2, 3, 4, 5, 6] rfl rfl (by decide))) 0 rfl rfl rfl hl.1 rfl rfl (Nat.le_of_ble_eq_true rfl) ⟨rfl, rfl, Nat.le_of_ble_eq_true rfl, Nat.le_of_ble_eq_true rfl, Nat.zero_le _, Nat.zero_le _⟩ dX11_hurt_23 (fun H locs w => ?_)
    refine W.eq (g2 := F0 m 26 ls [.int r_2.1]) rfl ?_
    have hR := hC0 _ (sat_some h)
    subst hR
    exact hret _ _ _ _ w dX11_hurt_26
  · have h := sat_t c14 h
    refine lv_iconst (v := (-1)) hx hb dX11_hurt_17 (by decide) ?_
    refine lv_goto (tgt := 26) hx hb dX11_hurt_18 (by decide) ?_
    have hR := hC0 _ (sat_some h)
    subst hR
    exact hret _ _ _ _ w dX11_hurt_26
def f_X11_worst_L7 (rn : Int32) (dl : ar) (lt : Int32) (N : Nat) : Nat → Int32 → Int32 → Int32 → Int32 → ar → Option (Int32 × Int32 × ar)
  | 0, _, _, _, _, _ => none
  | n + 1, x1_7, x2_7, x3_7, sn_7, sm_7 => if lt ≤ x3_7 then some (x1_7, sn_7, sm_7) else Option.bind (f_X3_pairOf N dl lt x3_7) fun r_1 => Option.bind (f_X11_hurtWithout N rn dl sm_7 r_1) fun r_2 => if x1_7 = (-9) then f_X11_worst_L7 rn dl lt N n x3_7 r_2.1 (x3_7 + 1) r_2.2.1 r_2.2.2 else if r_2.1 ≤ x2_7 then f_X11_worst_L7 rn dl lt N n x1_7 x2_7 (x3_7 + 1) r_2.2.1 r_2.2.2 else f_X11_worst_L7 rn dl lt N n x3_7 r_2.1 (x3_7 + 1) r_2.2.1 r_2.2.2
def f_X11_worst (N : Nat) (rn : Int32) (dl : ar) (lt : Int32) (sm : ar) (sn : Int32) : Option (Int32 × Int32 × ar) := Option.bind (f_X11_worst_L7 rn dl lt N N (-9) 0 0 sn sm) fun s7 => some (s7.1, s7.2.1, s7.2.2)
abbrev rm_X11_worst : Room := { frames := 5, cells := 0, slots := 0, locals := 116 }
set_option maxRecDepth 100000 in
set_option maxHeartbeats 4000000 in
theorem k_X11_worst (l : Launch) (D : va_G) (cI cZ cK : ClassId) (N : Nat) (a0 a1 a3 a7 a8 a17 a18 a20 a23 a25 a27 a9 a11 a12 a13 a14 a15 a16 a10 a26 : Nat) (rn : Int32) (re : Int32) (rh : Int32) (ra : Int32) (rl : Int32) (rf : Int32) (wz : Int32) (tm : Int32) (lt : Int32) (dl : ar) (sn : Int32) (sm : ar) (R : Int32 × Int32 × ar) (h : f_X11_worst N rn dl lt sm sn = some R) : Mu l D cI cZ cK yX11_worst cX11_worst 5 (some .int) rm_X11_worst [.ref a0] [(a0, .inr (11, [.ref a1, .ref a3, .ref a7, .ref a8, .ref a17, .ref a18, .ref a20, .ref a23, .ref a25, .ref a27])), (a7, .inr (7, [.int rn, .int re, .int rh, .int ra, .int rl, .int rf])), (a8, .inr (1, [.ref a9, .ref a11, .ref a12, .ref a13, .ref a14, .ref a15, .ref a16, .int wz, .int tm])), (a9, .inr (3, [.ref a10, .int lt])), (a10, .inl (cI, 36, .inl dl)), (a25, .inr (2, [.ref a26, .int sn])), (a26, .inl (cI, 36, .inl sm))] (some (.int R.1)) [(a0, .inr (11, [.ref a1, .ref a3, .ref a7, .ref a8, .ref a17, .ref a18, .ref a20, .ref a23, .ref a25, .ref a27])), (a7, .inr (7, [.int rn, .int re, .int rh, .int ra, .int rl, .int rf])), (a8, .inr (1, [.ref a9, .ref a11, .ref a12, .ref a13, .ref a14, .ref a15, .ref a16, .int wz, .int tm])), (a9, .inr (3, [.ref a10, .int lt])), (a10, .inl (cI, 36, .inl dl)), (a25, .inr (2, [.ref a26, .int R.2.1])), (a26, .inl (cI, 36, .inl R.2.2))] := by
  refine mi_of (by decide) (vp_nar_int _) (Nat.le_of_ble_eq_true rfl) ?_
  intro p e s m args below meth c Q A ls hx hb hml hown hk hA w hret hl
  have hl : lv_has ls 5 [(0, .ref a0)] := hl
  obtain ⟨C0, hC0, h⟩ := sat_top h
  unfold f_X11_worst at h
  refine lv_bipush (v := (-9)) hx hb dX11_worst_0 (by decide) ?_
  refine lv_istore_n (lv' := [(1, .int (-9)), (0, .ref a0)]) hx hb dX11_worst_2 rfl hl (by decide) rfl (fun ls hl => ?_)
  refine lv_iconst (v := 0) hx hb dX11_worst_3 (by decide) ?_
  refine lv_istore_n (lv' := [(2, .int 0), (1, .int (-9)), (0, .ref a0)]) hx hb dX11_worst_4 rfl hl (by decide) rfl (fun ls hl => ?_)
  refine lv_iconst (v := 0) hx hb dX11_worst_5 (by decide) ?_
  refine lv_istore_n (lv' := [(3, .int 0), (2, .int 0), (1, .int (-9)), (0, .ref a0)]) hx hb dX11_worst_6 rfl hl (by decide) rfl (fun ls hl => ?_)
  obtain ⟨T7, hT7, h⟩ := sat_reg h
  have E7 : ∀ (e1_3 : Int32) (sn_4 : Int32) (sm_5 : ar) (H : Heap) (locs : List Loc) (ls : Array Slot), T7 (e1_3, sn_4, sm_5) → wd D A s.heap H locs [(a0, .inr (11, [.ref a1, .ref a3, .ref a7, .ref a8, .ref a17, .ref a18, .ref a20, .ref a23, .ref a25, .ref a27])), (a7, .inr (7, [.int rn, .int re, .int rh, .int ra, .int rl, .int rf])), (a8, .inr (1, [.ref a9, .ref a11, .ref a12, .ref a13, .ref a14, .ref a15, .ref a16, .int wz, .int tm])), (a9, .inr (3, [.ref a10, .int lt])), (a10, .inl (cI, 36, .inl dl)), (a25, .inr (2, [.ref a26, .int sn_4])), (a26, .inl (cI, 36, .inl sm_5))] → lv_has ls 5 [(1, .int e1_3)] → W p l e rm_X11_worst s m args below meth c H locs 0 0 Q (F0 m 61 ls []) := by
    intro e1_3 sn_4 sm_5 H locs ls h w hl
    have h := hT7 _ h
    dsimp only at h
    refine lv_iload_n hx hb dX11_worst_61 rfl (lv_at hl 0 rfl) ?_
    have hR := hC0 _ (sat_some h)
    subst hR
    exact hret _ _ _ _ w dX11_worst_62
  have L7 : ∀ (n : Nat) (x1_7 : Int32) (x2_7 : Int32) (x3_7 : Int32) (sn_7 : Int32) (sm_7 : ar) (H : Heap) (locs : List Loc) (ls : Array Slot), sat (f_X11_worst_L7 rn dl lt N n x1_7 x2_7 x3_7 sn_7 sm_7) T7 → wd D A s.heap H locs [(a0, .inr (11, [.ref a1, .ref a3, .ref a7, .ref a8, .ref a17, .ref a18, .ref a20, .ref a23, .ref a25, .ref a27])), (a7, .inr (7, [.int rn, .int re, .int rh, .int ra, .int rl, .int rf])), (a8, .inr (1, [.ref a9, .ref a11, .ref a12, .ref a13, .ref a14, .ref a15, .ref a16, .int wz, .int tm])), (a9, .inr (3, [.ref a10, .int lt])), (a10, .inl (cI, 36, .inl dl)), (a25, .inr (2, [.ref a26, .int sn_7])), (a26, .inl (cI, 36, .inl sm_7))] → lv_has ls 5 [(0, .ref a0), (1, .int x1_7), (2, .int x2_7), (3, .int x3_7)] → W p l e rm_X11_worst s m args below meth c H locs 0 0 Q (F0 m 7 ls []) := by
    intro n
    induction n with
    | zero =>
      intro x1_7 x2_7 x3_7 sn_7 sm_7 H locs ls h
      rw [f_X11_worst_L7] at h
      exact (sat_none h).elim
    | succ n ih =>
      intro x1_7 x2_7 x3_7 sn_7 sm_7 H locs ls h w hl
      rw [f_X11_worst_L7] at h
      refine lv_iload_n hx hb dX11_worst_7 rfl (lv_at hl 3 rfl) ?_
      refine lv_aload_n hx hb dX11_worst_8 rfl (lv_at hl 0 rfl) ?_
      refine gf_X11_35 hx hb hown hk w.1 0 rfl rfl dX11_worst_9 ?_
      refine gf_X11_118 hx hb hown hk w.1 2 rfl rfl dX11_worst_12 ?_
      refine gf_X11_148 hx hb hown hk w.1 3 rfl rfl dX11_worst_15 ?_
      refine lv_icmp_ge (tgt := 61) hx hb dX11_worst_18 (by decide) (fun c18 => ?_) (fun c18 => ?_)
      · have h := sat_t c18 h
        exact E7 x1_7 sn_7 sm_7 _ _ _ (sat_some h) w (lv_sub hl [1] rfl)
      · have h := sat_f c18 h
        refine lv_aload_n hx hb dX11_worst_21 rfl (lv_at hl 0 rfl) ?_
        refine lv_aload_n hx hb dX11_worst_22 rfl (lv_at hl 0 rfl) ?_
        refine gf_X11_35 hx hb hown hk w.1 0 rfl rfl dX11_worst_23 ?_
        refine gf_X11_118 hx hb hown hk w.1 2 rfl rfl dX11_worst_26 ?_
        refine lv_iload_n hx hb dX11_worst_29 rfl (lv_at hl 3 rfl) ?_
        obtain ⟨r_1, e_1, h⟩ := sat_bind h
        refine cRV (rest := [.ref a0]) hx hb hml hown hk (k_X3_pairOf l D cI cZ cK N a9 a10 lt dl x3_7 r_1 e_1) (me_X3_pairOf hk.2.1) (mi_X3_pairOf hk.2.1) (ml_X11_119 hk.2.1) (w.1.sub [3, 4] rfl) 0 rfl rfl rfl hl.1 rfl rfl (Nat.le_of_ble_eq_true rfl) ⟨rfl, rfl, Nat.le_of_ble_eq_true rfl, Nat.le_of_ble_eq_true rfl, Nat.zero_le _, Nat.zero_le _⟩ dX11_worst_30 ?_
        obtain ⟨r_2, e_2, h⟩ := sat_bind h
        refine cMV (rest := []) (wr := []) (ws' := [(a0, .inr (11, [.ref a1, .ref a3, .ref a7, .ref a8, .ref a17, .ref a18, .ref a20, .ref a23, .ref a25, .ref a27])), (a7, .inr (7, [.int rn, .int re, .int rh, .int ra, .int rl, .int rf])), (a8, .inr (1, [.ref a9, .ref a11, .ref a12, .ref a13, .ref a14, .ref a15, .ref a16, .int wz, .int tm])), (a9, .inr (3, [.ref a10, .int lt])), (a10, .inl (cI, 36, .inl dl)), (a25, .inr (2, [.ref a26, .int r_2.2.1])), (a26, .inl (cI, 36, .inl r_2.2.2))]) hx hb hml hown hk w hA (k_X11_hurtWithout l D cI cZ cK N a0 a1 a3 a7 a8 a17 a18 a20 a23 a25 a27 a9 a11 a12 a13 a14 a15 a16 a10 a26 rn re rh ra rl rf wz tm lt dl sn_7 sm_7 r_1 r_2 e_2) (me_X11_hurtWithout hk.2.1) (mi_X11_hurtWithout hk.2.1) (ml_X11_220 hk.2.1) ((pmn 7 [0, 1, 2, 3, 4, 5, 6] rfl rfl (by decide))) ((pmn 7 [0, 1, 2, 3, 4, 5, 6] rfl rfl (by decide))) 0 rfl rfl rfl hl.1 rfl rfl (Nat.le_of_ble_eq_true rfl) ⟨rfl, rfl, Nat.le_of_ble_eq_true rfl, Nat.le_of_ble_eq_true rfl, Nat.zero_le _, Nat.zero_le _⟩ dX11_worst_33 (fun H locs w => ?_)
        refine W.eq (g2 := F0 m 36 ls [.int r_2.1]) rfl ?_
        refine lv_istore (lv' := [(4, .int r_2.1), (0, .ref a0), (1, .int x1_7), (2, .int x2_7), (3, .int x3_7)]) hx hb dX11_worst_36 hl (by decide) rfl (fun ls hl => ?_)
        refine lv_iload_n hx hb dX11_worst_38 rfl (lv_at hl 2 rfl) ?_
        refine lv_bipush (v := (-9)) hx hb dX11_worst_39 (by decide) ?_
        refine lv_icmp_eq (tgt := 50) hx hb dX11_worst_41 (by decide) (fun c41 => ?_) (fun c41 => ?_)
        · have h := sat_t c41 h
          refine lv_iload_n hx hb dX11_worst_50 rfl (lv_at hl 4 rfl) ?_
          refine lv_istore_n (lv' := [(1, .int x3_7), (4, .int r_2.1), (0, .ref a0), (2, .int x2_7), (3, .int x3_7)]) hx hb dX11_worst_51 rfl hl (by decide) rfl (fun ls hl => ?_)
          refine lv_iload hx hb dX11_worst_52 (lv_at hl 1 rfl) ?_
          refine lv_istore_n (lv' := [(2, .int r_2.1), (1, .int x3_7), (4, .int r_2.1), (0, .ref a0), (3, .int x3_7)]) hx hb dX11_worst_54 rfl hl (by decide) rfl (fun ls hl => ?_)
          refine lv_iinc (v := x3_7 + 1) (lv' := [(3, .int (x3_7 + 1)), (2, .int r_2.1), (1, .int x3_7), (4, .int r_2.1), (0, .ref a0)]) hx hb dX11_worst_55 hl (k := 4) rfl (congrArg (fun z => x3_7 + z) (by decide)) (by decide) rfl (fun ls hl => ?_)
          refine lv_goto (tgt := 7) hx hb dX11_worst_58 (by decide) ?_
          exact ih x3_7 r_2.1 (x3_7 + 1) r_2.2.1 r_2.2.2 _ _ _ h w (lv_sub hl [4, 2, 1, 0] rfl)
        · have h := sat_f c41 h
          refine lv_iload hx hb dX11_worst_44 (lv_at hl 0 rfl) ?_
          refine lv_iload_n hx hb dX11_worst_46 rfl (lv_at hl 3 rfl) ?_
          refine lv_icmp_le (tgt := 55) hx hb dX11_worst_47 (by decide) (fun c47 => ?_) (fun c47 => ?_)
          · have h := sat_t c47 h
            refine lv_iinc (v := x3_7 + 1) (lv' := [(3, .int (x3_7 + 1)), (4, .int r_2.1), (0, .ref a0), (1, .int x1_7), (2, .int x2_7)]) hx hb dX11_worst_55 hl (k := 4) rfl (congrArg (fun z => x3_7 + z) (by decide)) (by decide) rfl (fun ls hl => ?_)
            refine lv_goto (tgt := 7) hx hb dX11_worst_58 (by decide) ?_
            exact ih x1_7 x2_7 (x3_7 + 1) r_2.2.1 r_2.2.2 _ _ _ h w (lv_sub hl [2, 3, 4, 0] rfl)
          · have h := sat_f c47 h
            refine lv_iload_n hx hb dX11_worst_50 rfl (lv_at hl 4 rfl) ?_
            refine lv_istore_n (lv' := [(1, .int x3_7), (4, .int r_2.1), (0, .ref a0), (2, .int x2_7), (3, .int x3_7)]) hx hb dX11_worst_51 rfl hl (by decide) rfl (fun ls hl => ?_)
            refine lv_iload hx hb dX11_worst_52 (lv_at hl 1 rfl) ?_
            refine lv_istore_n (lv' := [(2, .int r_2.1), (1, .int x3_7), (4, .int r_2.1), (0, .ref a0), (3, .int x3_7)]) hx hb dX11_worst_54 rfl hl (by decide) rfl (fun ls hl => ?_)
            refine lv_iinc (v := x3_7 + 1) (lv' := [(3, .int (x3_7 + 1)), (2, .int r_2.1), (1, .int x3_7), (4, .int r_2.1), (0, .ref a0)]) hx hb dX11_worst_55 hl (k := 4) rfl (congrArg (fun z => x3_7 + z) (by decide)) (by decide) rfl (fun ls hl => ?_)
            refine lv_goto (tgt := 7) hx hb dX11_worst_58 (by decide) ?_
            exact ih x3_7 r_2.1 (x3_7 + 1) r_2.2.1 r_2.2.2 _ _ _ h w (lv_sub hl [4, 2, 1, 0] rfl)
  exact L7 N (-9) 0 0 sn sm _ _ _ h w (lv_sub hl [3, 2, 1, 0] rfl)
def f_X11_sees (rn : Int32) (sf : ar) (sg : ar) (sw : ar) (sz : Int32) (x1 : Int32) (x2 : Int32) (x3 : Int32) : Option (Int32 × Int32 × ar × ar × ar) := Option.bind (f_X11_areUnlike rn x1 x2) fun r_1 => if (b2i r_1) = 0 then some ((-1), sz, sf, sg, sw) else if x3 < 0 then some ((-1), sz, sf, sg, sw) else if x3 ≤ 99 then Option.bind (f_X8_append sf sg sw sz x1 x2 x3) fun r_2 => if (b2i r_2.1) = 0 then some ((-3), r_2.2.1, r_2.2.2.1, r_2.2.2.2.1, r_2.2.2.2.2) else some (r_2.2.1, r_2.2.1, r_2.2.2.1, r_2.2.2.2.1, r_2.2.2.2.2) else some ((-1), sz, sf, sg, sw)
abbrev rm_X11_sees : Room := { frames := 2, cells := 0, slots := 0, locals := 43 }
set_option maxRecDepth 100000 in
set_option maxHeartbeats 4000000 in
theorem k_X11_sees (l : Launch) (D : va_G) (cI cZ cK : ClassId) (a0 a1 a3 a7 a8 a17 a18 a20 a23 a25 a27 a28 a29 a30 : Nat) (rn : Int32) (re : Int32) (rh : Int32) (ra : Int32) (rl : Int32) (rf : Int32) (sz : Int32) (sf : ar) (sg : ar) (sw : ar) (x1 : Int32) (x2 : Int32) (x3 : Int32) (R : Int32 × Int32 × ar × ar × ar) (h : f_X11_sees rn sf sg sw sz x1 x2 x3 = some R) : Mu l D cI cZ cK yX11_sees cX11_sees 4 (some .int) rm_X11_sees [.ref a0, .int x1, .int x2, .int x3] [(a0, .inr (11, [.ref a1, .ref a3, .ref a7, .ref a8, .ref a17, .ref a18, .ref a20, .ref a23, .ref a25, .ref a27])), (a7, .inr (7, [.int rn, .int re, .int rh, .int ra, .int rl, .int rf])), (a27, .inr (8, [.ref a28, .ref a29, .ref a30, .int sz])), (a28, .inl (cI, 6, .inl sf)), (a29, .inl (cI, 6, .inl sg)), (a30, .inl (cI, 6, .inl sw))] (some (.int R.1)) [(a0, .inr (11, [.ref a1, .ref a3, .ref a7, .ref a8, .ref a17, .ref a18, .ref a20, .ref a23, .ref a25, .ref a27])), (a7, .inr (7, [.int rn, .int re, .int rh, .int ra, .int rl, .int rf])), (a27, .inr (8, [.ref a28, .ref a29, .ref a30, .int R.2.1])), (a28, .inl (cI, 6, .inl R.2.2.1)), (a29, .inl (cI, 6, .inl R.2.2.2.1)), (a30, .inl (cI, 6, .inl R.2.2.2.2))] := by
  refine mi_of (by decide) (vp_nar_int _) (Nat.le_of_ble_eq_true rfl) ?_
  intro p e s m args below meth c Q A ls hx hb hml hown hk hA w hret hl
  have hl : lv_has ls 4 [(0, .ref a0), (1, .int x1), (2, .int x2), (3, .int x3)] := hl
  obtain ⟨C0, hC0, h⟩ := sat_top h
  unfold f_X11_sees at h
  refine lv_aload_n hx hb dX11_sees_0 rfl (lv_at hl 0 rfl) ?_
  refine lv_iload_n hx hb dX11_sees_1 rfl (lv_at hl 1 rfl) ?_
  refine lv_iload_n hx hb dX11_sees_2 rfl (lv_at hl 2 rfl) ?_
  obtain ⟨r_1, e_1, h⟩ := sat_bind h
  refine cRV (rest := []) hx hb hml hown hk (k_X11_areUnlike l D cI cZ cK a0 a1 a3 a7 a8 a17 a18 a20 a23 a25 a27 rn re rh ra rl rf x1 x2 r_1 e_1) (me_X11_areUnlike hk.2.1) (mi_X11_areUnlike hk.2.1) (ml_X11_129 hk.2.1) (w.1.sub [0, 1] rfl) 0 rfl rfl rfl hl.1 rfl rfl (Nat.le_of_ble_eq_true rfl) ⟨rfl, rfl, Nat.le_of_ble_eq_true rfl, Nat.le_of_ble_eq_true rfl, Nat.zero_le _, Nat.zero_le _⟩ dX11_sees_3 ?_
  refine lv_if_eq (tgt := 19) hx hb dX11_sees_6 (by decide) (fun c6 => ?_) (fun c6 => ?_)
  · have h := sat_t c6 h
    refine lv_iconst (v := (-1)) hx hb dX11_sees_19 (by decide) ?_
    have hR := hC0 _ (sat_some h)
    subst hR
    exact hret _ _ _ _ w dX11_sees_20
  · have h := sat_f c6 h
    refine lv_iload_n hx hb dX11_sees_9 rfl (lv_at hl 3 rfl) ?_
    refine lv_if_lt (tgt := 19) hx hb dX11_sees_10 (by decide) (fun c10 => ?_) (fun c10 => ?_)
    · have h := sat_t c10 h
      refine lv_iconst (v := (-1)) hx hb dX11_sees_19 (by decide) ?_
      have hR := hC0 _ (sat_some h)
      subst hR
      exact hret _ _ _ _ w dX11_sees_20
    · have h := sat_f c10 h
      refine lv_iload_n hx hb dX11_sees_13 rfl (lv_at hl 3 rfl) ?_
      refine lv_bipush (v := 99) hx hb dX11_sees_14 (by decide) ?_
      refine lv_icmp_le (tgt := 21) hx hb dX11_sees_16 (by decide) (fun c16 => ?_) (fun c16 => ?_)
      · have h := sat_t c16 h
        refine lv_aload_n hx hb dX11_sees_21 rfl (lv_at hl 0 rfl) ?_
        refine gf_X11_81 hx hb hown hk w.1 0 rfl rfl dX11_sees_22 ?_
        refine lv_iload_n hx hb dX11_sees_25 rfl (lv_at hl 1 rfl) ?_
        refine lv_iload_n hx hb dX11_sees_26 rfl (lv_at hl 2 rfl) ?_
        refine lv_iload_n hx hb dX11_sees_27 rfl (lv_at hl 3 rfl) ?_
        obtain ⟨r_2, e_2, h⟩ := sat_bind h
        refine cMV (rest := []) (wr := [(a0, .inr (11, [.ref a1, .ref a3, .ref a7, .ref a8, .ref a17, .ref a18, .ref a20, .ref a23, .ref a25, .ref a27])), (a7, .inr (7, [.int rn, .int re, .int rh, .int ra, .int rl, .int rf]))]) (ws' := [(a0, .inr (11, [.ref a1, .ref a3, .ref a7, .ref a8, .ref a17, .ref a18, .ref a20, .ref a23, .ref a25, .ref a27])), (a7, .inr (7, [.int rn, .int re, .int rh, .int ra, .int rl, .int rf])), (a27, .inr (8, [.ref a28, .ref a29, .ref a30, .int r_2.2.1])), (a28, .inl (cI, 6, .inl r_2.2.2.1)), (a29, .inl (cI, 6, .inl r_2.2.2.2.1)), (a30, .inl (cI, 6, .inl r_2.2.2.2.2))]) hx hb hml hown hk w hA (k_X8_append l D cI cZ cK a27 a28 a29 a30 sz sf sg sw x1 x2 x3 r_2 e_2) (me_X8_append hk.2.1) (mi_X8_append hk.2.1) (ml_X11_223 hk.2.1) ((pmn 6 [2, 3, 4, 5, 0, 1] rfl rfl (by decide))) ((pmn 6 [4, 5, 0, 1, 2, 3] rfl rfl (by decide))) 0 rfl rfl rfl hl.1 rfl rfl (Nat.le_of_ble_eq_true rfl) ⟨rfl, rfl, Nat.le_of_ble_eq_true rfl, Nat.le_of_ble_eq_true rfl, Nat.zero_le _, Nat.zero_le _⟩ dX11_sees_28 (fun H locs w => ?_)
        refine W.eq (g2 := F0 m 31 ls [.int (b2i r_2.1)]) rfl ?_
        refine lv_if_eq (tgt := 44) hx hb dX11_sees_31 (by decide) (fun c31 => ?_) (fun c31 => ?_)
        · have h := sat_t c31 h
          refine lv_bipush (v := (-3)) hx hb dX11_sees_44 (by decide) ?_
          have hR := hC0 _ (sat_some h)
          subst hR
          exact hret _ _ _ _ w dX11_sees_46
        · have h := sat_f c31 h
          refine lv_aload_n hx hb dX11_sees_34 rfl (lv_at hl 0 rfl) ?_
          refine gf_X11_81 hx hb hown hk w.1 0 rfl rfl dX11_sees_35 ?_
          refine gf_X11_114 hx hb hown hk w.1 2 rfl rfl dX11_sees_38 ?_
          refine lv_goto (tgt := 46) hx hb dX11_sees_41 (by decide) ?_
          have hR := hC0 _ (sat_some h)
          subst hR
          exact hret _ _ _ _ w dX11_sees_46
      · have h := sat_f c16 h
        refine lv_iconst (v := (-1)) hx hb dX11_sees_19 (by decide) ?_
        have hR := hC0 _ (sat_some h)
        subst hR
        exact hret _ _ _ _ w dX11_sees_20
def f_X11_forget (sz : Int32) : Option (Int32 × Int32) := some (sz, 0)
abbrev rm_X11_forget : Room := { frames := 0, cells := 0, slots := 0, locals := 0 }
set_option maxRecDepth 100000 in
set_option maxHeartbeats 4000000 in
theorem k_X11_forget (l : Launch) (D : va_G) (cI cZ cK : ClassId) (a0 a1 a3 a7 a8 a17 a18 a20 a23 a25 a27 a28 a29 a30 : Nat) (sz : Int32) (R : Int32 × Int32) (h : f_X11_forget sz = some R) : Mu l D cI cZ cK yX11_forget cX11_forget 2 (some .int) rm_X11_forget [.ref a0] [(a0, .inr (11, [.ref a1, .ref a3, .ref a7, .ref a8, .ref a17, .ref a18, .ref a20, .ref a23, .ref a25, .ref a27])), (a27, .inr (8, [.ref a28, .ref a29, .ref a30, .int sz]))] (some (.int R.1)) [(a0, .inr (11, [.ref a1, .ref a3, .ref a7, .ref a8, .ref a17, .ref a18, .ref a20, .ref a23, .ref a25, .ref a27])), (a27, .inr (8, [.ref a28, .ref a29, .ref a30, .int R.2]))] := by
  refine mi_of (by decide) (vp_nar_int _) (Nat.le_of_ble_eq_true rfl) ?_
  intro p e s m args below meth c Q A ls hx hb hml hown hk hA w hret hl
  have hl : lv_has ls 2 [(0, .ref a0)] := hl
  obtain ⟨C0, hC0, h⟩ := sat_top h
  unfold f_X11_forget at h
  refine lv_aload_n hx hb dX11_forget_0 rfl (lv_at hl 0 rfl) ?_
  refine gf_X11_81 hx hb hown hk w.1 0 rfl rfl dX11_forget_1 ?_
  refine gf_X11_114 hx hb hown hk w.1 1 rfl rfl dX11_forget_4 ?_
  refine lv_istore_n (lv' := [(1, .int sz), (0, .ref a0)]) hx hb dX11_forget_7 rfl hl (by decide) rfl (fun ls hl => ?_)
  refine lv_aload_n hx hb dX11_forget_8 rfl (lv_at hl 1 rfl) ?_
  refine gf_X11_81 hx hb hown hk w.1 0 rfl rfl dX11_forget_9 ?_
  refine lv_iconst (v := 0) hx hb dX11_forget_12 (by decide) ?_
  refine pf_X11_114 (ws' := [(a0, .inr (11, [.ref a1, .ref a3, .ref a7, .ref a8, .ref a17, .ref a18, .ref a20, .ref a23, .ref a25, .ref a27])), (a27, .inr (8, [.ref a28, .ref a29, .ref a30, .int 0]))]) hx hb hown hk w 1 rfl (Nat.le_of_ble_eq_true rfl) rfl dX11_forget_13 (fun H locs w => ?_)
  refine lv_iload_n hx hb dX11_forget_16 rfl (lv_at hl 0 rfl) ?_
  have hR := hC0 _ (sat_some h)
  subst hR
  exact hret _ _ _ _ w dX11_forget_17
def f_X11_unseen_L4 (rn : Int32) (dl : ar) (lt : Int32) (sf : ar) (sg : ar) (sw : ar) (sz : Int32) (N : Nat) : Nat → Int32 → Int32 → Int32 → ar → Option (Int32 × Int32 × ar)
  | 0, _, _, _, _ => none
  | n + 1, x1_4, x2_4, sn_4, sm_4 => if lt ≤ x2_4 then some (x1_4, sn_4, sm_4) else Option.bind (f_X3_pairOf N dl lt x2_4) fun r_1 => Option.bind (f_X2_measure N sm_4 dl rn r_1) fun r_2 => Option.bind (f_X8_agree N sf sg sw sz r_2.2) fun r_3 => if (b2i r_3) = 0 then f_X11_unseen_L4 rn dl lt sf sg sw sz N n x1_4 (x2_4 + 1) r_2.1 r_2.2 else f_X11_unseen_L4 rn dl lt sf sg sw sz N n (x1_4 ||| (1 <<< (x2_4 &&& 31))) (x2_4 + 1) r_2.1 r_2.2
def f_X11_unseen (N : Nat) (rn : Int32) (dl : ar) (lt : Int32) (sm : ar) (sn : Int32) (sf : ar) (sg : ar) (sw : ar) (sz : Int32) : Option (Int32 × Int32 × ar) := Option.bind (f_X11_unseen_L4 rn dl lt sf sg sw sz N N 0 0 sn sm) fun s4 => some (s4.1, s4.2.1, s4.2.2)
abbrev rm_X11_unseen : Room := { frames := 4, cells := 0, slots := 0, locals := 95 }
set_option maxRecDepth 100000 in
set_option maxHeartbeats 4000000 in
theorem k_X11_unseen (l : Launch) (D : va_G) (cI cZ cK : ClassId) (N : Nat) (a0 a1 a3 a7 a8 a17 a18 a20 a23 a25 a27 a9 a11 a12 a13 a14 a15 a16 a10 a26 a28 a29 a30 : Nat) (rn : Int32) (re : Int32) (rh : Int32) (ra : Int32) (rl : Int32) (rf : Int32) (wz : Int32) (tm : Int32) (lt : Int32) (dl : ar) (sn : Int32) (sm : ar) (sz : Int32) (sf : ar) (sg : ar) (sw : ar) (R : Int32 × Int32 × ar) (h : f_X11_unseen N rn dl lt sm sn sf sg sw sz = some R) : Mu l D cI cZ cK yX11_unseen cX11_unseen 3 (some .int) rm_X11_unseen [.ref a0] [(a0, .inr (11, [.ref a1, .ref a3, .ref a7, .ref a8, .ref a17, .ref a18, .ref a20, .ref a23, .ref a25, .ref a27])), (a7, .inr (7, [.int rn, .int re, .int rh, .int ra, .int rl, .int rf])), (a8, .inr (1, [.ref a9, .ref a11, .ref a12, .ref a13, .ref a14, .ref a15, .ref a16, .int wz, .int tm])), (a9, .inr (3, [.ref a10, .int lt])), (a10, .inl (cI, 36, .inl dl)), (a25, .inr (2, [.ref a26, .int sn])), (a26, .inl (cI, 36, .inl sm)), (a27, .inr (8, [.ref a28, .ref a29, .ref a30, .int sz])), (a28, .inl (cI, 6, .inl sf)), (a29, .inl (cI, 6, .inl sg)), (a30, .inl (cI, 6, .inl sw))] (some (.int R.1)) [(a0, .inr (11, [.ref a1, .ref a3, .ref a7, .ref a8, .ref a17, .ref a18, .ref a20, .ref a23, .ref a25, .ref a27])), (a7, .inr (7, [.int rn, .int re, .int rh, .int ra, .int rl, .int rf])), (a8, .inr (1, [.ref a9, .ref a11, .ref a12, .ref a13, .ref a14, .ref a15, .ref a16, .int wz, .int tm])), (a9, .inr (3, [.ref a10, .int lt])), (a10, .inl (cI, 36, .inl dl)), (a25, .inr (2, [.ref a26, .int R.2.1])), (a26, .inl (cI, 36, .inl R.2.2)), (a27, .inr (8, [.ref a28, .ref a29, .ref a30, .int sz])), (a28, .inl (cI, 6, .inl sf)), (a29, .inl (cI, 6, .inl sg)), (a30, .inl (cI, 6, .inl sw))] := by
  refine mi_of (by decide) (vp_nar_int _) (Nat.le_of_ble_eq_true rfl) ?_
  intro p e s m args below meth c Q A ls hx hb hml hown hk hA w hret hl
  have hl : lv_has ls 3 [(0, .ref a0)] := hl
  obtain ⟨C0, hC0, h⟩ := sat_top h
  unfold f_X11_unseen at h
  refine lv_iconst (v := 0) hx hb dX11_unseen_0 (by decide) ?_
  refine lv_istore_n (lv' := [(1, .int 0), (0, .ref a0)]) hx hb dX11_unseen_1 rfl hl (by decide) rfl (fun ls hl => ?_)
  refine lv_iconst (v := 0) hx hb dX11_unseen_2 (by decide) ?_
  refine lv_istore_n (lv' := [(2, .int 0), (1, .int 0), (0, .ref a0)]) hx hb dX11_unseen_3 rfl hl (by decide) rfl (fun ls hl => ?_)
  obtain ⟨T4, hT4, h⟩ := sat_reg h
  have E4 : ∀ (e1_4 : Int32) (sn_5 : Int32) (sm_6 : ar) (H : Heap) (locs : List Loc) (ls : Array Slot), T4 (e1_4, sn_5, sm_6) → wd D A s.heap H locs [(a0, .inr (11, [.ref a1, .ref a3, .ref a7, .ref a8, .ref a17, .ref a18, .ref a20, .ref a23, .ref a25, .ref a27])), (a7, .inr (7, [.int rn, .int re, .int rh, .int ra, .int rl, .int rf])), (a8, .inr (1, [.ref a9, .ref a11, .ref a12, .ref a13, .ref a14, .ref a15, .ref a16, .int wz, .int tm])), (a9, .inr (3, [.ref a10, .int lt])), (a10, .inl (cI, 36, .inl dl)), (a25, .inr (2, [.ref a26, .int sn_5])), (a26, .inl (cI, 36, .inl sm_6)), (a27, .inr (8, [.ref a28, .ref a29, .ref a30, .int sz])), (a28, .inl (cI, 6, .inl sf)), (a29, .inl (cI, 6, .inl sg)), (a30, .inl (cI, 6, .inl sw))] → lv_has ls 3 [(1, .int e1_4)] → W p l e rm_X11_unseen s m args below meth c H locs 0 0 Q (F0 m 76 ls []) := by
    intro e1_4 sn_5 sm_6 H locs ls h w hl
    have h := hT4 _ h
    dsimp only at h
    refine lv_iload_n hx hb dX11_unseen_76 rfl (lv_at hl 0 rfl) ?_
    have hR := hC0 _ (sat_some h)
    subst hR
    exact hret _ _ _ _ w dX11_unseen_77
  have L4 : ∀ (n : Nat) (x1_4 : Int32) (x2_4 : Int32) (sn_4 : Int32) (sm_4 : ar) (H : Heap) (locs : List Loc) (ls : Array Slot), sat (f_X11_unseen_L4 rn dl lt sf sg sw sz N n x1_4 x2_4 sn_4 sm_4) T4 → wd D A s.heap H locs [(a0, .inr (11, [.ref a1, .ref a3, .ref a7, .ref a8, .ref a17, .ref a18, .ref a20, .ref a23, .ref a25, .ref a27])), (a7, .inr (7, [.int rn, .int re, .int rh, .int ra, .int rl, .int rf])), (a8, .inr (1, [.ref a9, .ref a11, .ref a12, .ref a13, .ref a14, .ref a15, .ref a16, .int wz, .int tm])), (a9, .inr (3, [.ref a10, .int lt])), (a10, .inl (cI, 36, .inl dl)), (a25, .inr (2, [.ref a26, .int sn_4])), (a26, .inl (cI, 36, .inl sm_4)), (a27, .inr (8, [.ref a28, .ref a29, .ref a30, .int sz])), (a28, .inl (cI, 6, .inl sf)), (a29, .inl (cI, 6, .inl sg)), (a30, .inl (cI, 6, .inl sw))] → lv_has ls 3 [(0, .ref a0), (1, .int x1_4), (2, .int x2_4)] → W p l e rm_X11_unseen s m args below meth c H locs 0 0 Q (F0 m 4 ls []) := by
    intro n
    induction n with
    | zero =>
      intro x1_4 x2_4 sn_4 sm_4 H locs ls h
      rw [f_X11_unseen_L4] at h
      exact (sat_none h).elim
    | succ n ih =>
      intro x1_4 x2_4 sn_4 sm_4 H locs ls h w hl
      rw [f_X11_unseen_L4] at h
      refine lv_iload_n hx hb dX11_unseen_4 rfl (lv_at hl 2 rfl) ?_
      refine lv_aload_n hx hb dX11_unseen_5 rfl (lv_at hl 0 rfl) ?_
      refine gf_X11_35 hx hb hown hk w.1 0 rfl rfl dX11_unseen_6 ?_
      refine gf_X11_118 hx hb hown hk w.1 2 rfl rfl dX11_unseen_9 ?_
      refine gf_X11_148 hx hb hown hk w.1 3 rfl rfl dX11_unseen_12 ?_
      refine lv_icmp_ge (tgt := 76) hx hb dX11_unseen_15 (by decide) (fun c15 => ?_) (fun c15 => ?_)
      · have h := sat_t c15 h
        exact E4 x1_4 sn_4 sm_4 _ _ _ (sat_some h) w (lv_sub hl [1] rfl)
      · have h := sat_f c15 h
        refine lv_aload_n hx hb dX11_unseen_18 rfl (lv_at hl 0 rfl) ?_
        refine gf_X11_74 hx hb hown hk w.1 0 rfl rfl dX11_unseen_19 ?_
        refine lv_aload_n hx hb dX11_unseen_22 rfl (lv_at hl 0 rfl) ?_
        refine gf_X11_35 hx hb hown hk w.1 0 rfl rfl dX11_unseen_23 ?_
        refine gf_X11_118 hx hb hown hk w.1 2 rfl rfl dX11_unseen_26 ?_
        refine lv_aload_n hx hb dX11_unseen_29 rfl (lv_at hl 0 rfl) ?_
        refine gf_X11_28 hx hb hown hk w.1 0 rfl rfl dX11_unseen_30 ?_
        refine gf_X11_209 hx hb hown hk w.1 1 rfl rfl dX11_unseen_33 ?_
        refine lv_aload_n hx hb dX11_unseen_36 rfl (lv_at hl 0 rfl) ?_
        refine gf_X11_35 hx hb hown hk w.1 0 rfl rfl dX11_unseen_37 ?_
        refine gf_X11_118 hx hb hown hk w.1 2 rfl rfl dX11_unseen_40 ?_
        refine lv_iload_n hx hb dX11_unseen_43 rfl (lv_at hl 2 rfl) ?_
        obtain ⟨r_1, e_1, h⟩ := sat_bind h
        refine cRV (rest := [.int rn, .ref a9, .ref a25]) hx hb hml hown hk (k_X3_pairOf l D cI cZ cK N a9 a10 lt dl x2_4 r_1 e_1) (me_X3_pairOf hk.2.1) (mi_X3_pairOf hk.2.1) (ml_X11_119 hk.2.1) (w.1.sub [3, 4] rfl) 0 rfl rfl rfl hl.1 rfl rfl (Nat.le_of_ble_eq_true rfl) ⟨rfl, rfl, Nat.le_of_ble_eq_true rfl, Nat.le_of_ble_eq_true rfl, Nat.zero_le _, Nat.zero_le _⟩ dX11_unseen_44 ?_
        obtain ⟨r_2, e_2, h⟩ := sat_bind h
        refine cMV (rest := []) (wr := [(a0, .inr (11, [.ref a1, .ref a3, .ref a7, .ref a8, .ref a17, .ref a18, .ref a20, .ref a23, .ref a25, .ref a27])), (a7, .inr (7, [.int rn, .int re, .int rh, .int ra, .int rl, .int rf])), (a8, .inr (1, [.ref a9, .ref a11, .ref a12, .ref a13, .ref a14, .ref a15, .ref a16, .int wz, .int tm])), (a27, .inr (8, [.ref a28, .ref a29, .ref a30, .int sz])), (a28, .inl (cI, 6, .inl sf)), (a29, .inl (cI, 6, .inl sg)), (a30, .inl (cI, 6, .inl sw))]) (ws' := [(a0, .inr (11, [.ref a1, .ref a3, .ref a7, .ref a8, .ref a17, .ref a18, .ref a20, .ref a23, .ref a25, .ref a27])), (a7, .inr (7, [.int rn, .int re, .int rh, .int ra, .int rl, .int rf])), (a8, .inr (1, [.ref a9, .ref a11, .ref a12, .ref a13, .ref a14, .ref a15, .ref a16, .int wz, .int tm])), (a9, .inr (3, [.ref a10, .int lt])), (a10, .inl (cI, 36, .inl dl)), (a25, .inr (2, [.ref a26, .int r_2.1])), (a26, .inl (cI, 36, .inl r_2.2)), (a27, .inr (8, [.ref a28, .ref a29, .ref a30, .int sz])), (a28, .inl (cI, 6, .inl sf)), (a29, .inl (cI, 6, .inl sg)), (a30, .inl (cI, 6, .inl sw))]) hx hb hml hown hk w hA (k_X2_measure l D cI cZ cK N a25 a26 a9 a10 sn_4 sm_4 lt dl rn r_1 r_2 e_2) (me_X2_measure hk.2.1) (mi_X2_measure hk.2.1) (ml_X11_211 hk.2.1) ((pmn 11 [5, 6, 3, 4, 0, 1, 2, 7, 8, 9, 10] rfl rfl (by decide))) ((pmn 11 [4, 5, 6, 2, 3, 0, 1, 7, 8, 9, 10] rfl rfl (by decide))) 0 rfl rfl rfl hl.1 rfl rfl (Nat.le_of_ble_eq_true rfl) ⟨rfl, rfl, Nat.le_of_ble_eq_true rfl, Nat.le_of_ble_eq_true rfl, Nat.zero_le _, Nat.zero_le _⟩ dX11_unseen_47 (fun H locs w => ?_)
        refine W.eq (g2 := F0 m 50 ls []) rfl ?_
        refine lv_aload_n hx hb dX11_unseen_50 rfl (lv_at hl 0 rfl) ?_
        refine gf_X11_81 hx hb hown hk w.1 0 rfl rfl dX11_unseen_51 ?_
        refine lv_aload_n hx hb dX11_unseen_54 rfl (lv_at hl 0 rfl) ?_
        refine gf_X11_74 hx hb hown hk w.1 0 rfl rfl dX11_unseen_55 ?_
        obtain ⟨r_3, e_3, h⟩ := sat_bind h
        refine cRV (rest := []) hx hb hml hown hk (k_X8_agree l D cI cZ cK N a27 a28 a29 a30 a25 a26 sz sf sg sw r_2.1 r_2.2 r_3 e_3) (me_X8_agree hk.2.1) (mi_X8_agree hk.2.1) (ml_X11_226 hk.2.1) (w.1.sub [7, 8, 9, 10, 5, 6] rfl) 0 rfl rfl rfl hl.1 rfl rfl (Nat.le_of_ble_eq_true rfl) ⟨rfl, rfl, Nat.le_of_ble_eq_true rfl, Nat.le_of_ble_eq_true rfl, Nat.zero_le _, Nat.zero_le _⟩ dX11_unseen_58 ?_
        refine lv_if_eq (tgt := 70) hx hb dX11_unseen_61 (by decide) (fun c61 => ?_) (fun c61 => ?_)
        · have h := sat_t c61 h
          refine lv_iinc (v := x2_4 + 1) (lv' := [(2, .int (x2_4 + 1)), (0, .ref a0), (1, .int x1_4)]) hx hb dX11_unseen_70 hl (k := 2) rfl (congrArg (fun z => x2_4 + z) (by decide)) (by decide) rfl (fun ls hl => ?_)
          refine lv_goto (tgt := 4) hx hb dX11_unseen_73 (by decide) ?_
          exact ih x1_4 (x2_4 + 1) r_2.1 r_2.2 _ _ _ h w (lv_sub hl [1, 2, 0] rfl)
        · have h := sat_f c61 h
          refine lv_iload_n hx hb dX11_unseen_64 rfl (lv_at hl 1 rfl) ?_
          refine lv_iconst (v := 1) hx hb dX11_unseen_65 (by decide) ?_
          refine lv_iload_n hx hb dX11_unseen_66 rfl (lv_at hl 2 rfl) ?_
          refine lv_ishl hx hb dX11_unseen_67 ?_
          refine lv_ior hx hb dX11_unseen_68 ?_
          refine lv_istore_n (lv' := [(1, .int (x1_4 ||| (1 <<< (x2_4 &&& 31)))), (0, .ref a0), (2, .int x2_4)]) hx hb dX11_unseen_69 rfl hl (by decide) rfl (fun ls hl => ?_)
          refine lv_iinc (v := x2_4 + 1) (lv' := [(2, .int (x2_4 + 1)), (1, .int (x1_4 ||| (1 <<< (x2_4 &&& 31)))), (0, .ref a0)]) hx hb dX11_unseen_70 hl (k := 2) rfl (congrArg (fun z => x2_4 + z) (by decide)) (by decide) rfl (fun ls hl => ?_)
          refine lv_goto (tgt := 4) hx hb dX11_unseen_73 (by decide) ?_
          exact ih (x1_4 ||| (1 <<< (x2_4 &&& 31))) (x2_4 + 1) r_2.1 r_2.2 _ _ _ h w (lv_sub hl [2, 1, 0] rfl)
  exact L4 N 0 0 sn sm _ _ _ h w (lv_sub hl [2, 1, 0] rfl)
def f_X11_count (tn : Int32) (rn : Int32) (re : Int32) (rh : Int32) (ra : Int32) (rl : Int32) (rf : Int32) (lt : Int32) (tm : Int32) (ps : Int32) (sz : Int32) (x1 : Int32) : Option (Int32) := if x1 = 0 then some rn else if x1 = 1 then some lt else if x1 = 2 then some re else if x1 = 3 then some rh else if x1 = 4 then some ra else if x1 = 5 then some rl else if x1 = 6 then some rf else if x1 = 7 then some tm else if x1 = 8 then some sz else if x1 = 9 then some tn else if x1 = 10 then some ps else some (-1)
abbrev rm_X11_count : Room := { frames := 0, cells := 0, slots := 0, locals := 0 }
set_option maxRecDepth 100000 in
set_option maxHeartbeats 4000000 in
theorem k_X11_count (l : Launch) (D : va_G) (cI cZ cK : ClassId) (a0 a1 a3 a7 a8 a17 a18 a20 a23 a25 a27 a2 a9 a11 a12 a13 a14 a15 a16 a10 a19 a28 a29 a30 : Nat) (tn : Int32) (rn : Int32) (re : Int32) (rh : Int32) (ra : Int32) (rl : Int32) (rf : Int32) (wz : Int32) (tm : Int32) (lt : Int32) (la : Int32) (ps : Int32) (sz : Int32) (x1 : Int32) (R : Int32) (h : f_X11_count tn rn re rh ra rl rf lt tm ps sz x1 = some R) : Rd l D cI cZ cK yX11_count cX11_count 2 (some .int) rm_X11_count [.ref a0, .int x1] [(a0, .inr (11, [.ref a1, .ref a3, .ref a7, .ref a8, .ref a17, .ref a18, .ref a20, .ref a23, .ref a25, .ref a27])), (a1, .inr (9, [.ref a2, .int tn])), (a7, .inr (7, [.int rn, .int re, .int rh, .int ra, .int rl, .int rf])), (a8, .inr (1, [.ref a9, .ref a11, .ref a12, .ref a13, .ref a14, .ref a15, .ref a16, .int wz, .int tm])), (a9, .inr (3, [.ref a10, .int lt])), (a18, .inr (4, [.ref a19, .int la, .int ps])), (a27, .inr (8, [.ref a28, .ref a29, .ref a30, .int sz]))] R := by
  refine rd_of (by decide) (vp_nar_int _) (Nat.le_of_ble_eq_true rfl) ?_
  intro p e s m args below meth c Q ls hx hb hml hown hk hP hret hl
  have hl : lv_has ls 2 [(0, .ref a0), (1, .int x1)] := hl
  obtain ⟨C0, hC0, h⟩ := sat_top h
  unfold f_X11_count at h
  refine lv_iload_n hx hb dX11_count_0 rfl (lv_at hl 1 rfl) ?_
  by_cases c1_0 : x1 = 0
  · have h := sat_t c1_0 h
    refine lv_tableIn (off := 59) (tgt := 60) hx hb dX11_count_1 (by rw [c1_0]; decide) (by rw [c1_0]; decide) (by rw [c1_0]; decide) (by decide) ?_
    refine lv_aload_n hx hb dX11_count_60 rfl (lv_at hl 0 rfl) ?_
    refine gf_X11_28 hx hb hown hk hP 0 rfl rfl dX11_count_61 ?_
    refine gf_X11_209 hx hb hown hk hP 2 rfl rfl dX11_count_64 ?_
    have hR := hC0 _ (sat_some h)
    subst hR
    exact hret _ _ dX11_count_67
  have h := sat_f c1_0 h
  have nc1_0 := ne_ti (z := 0) c1_0 (by decide)
  by_cases c1_1 : x1 = 1
  · have h := sat_t c1_1 h
    refine lv_tableIn (off := 67) (tgt := 68) hx hb dX11_count_1 (by rw [c1_1]; decide) (by rw [c1_1]; decide) (by rw [c1_1]; decide) (by decide) ?_
    refine lv_aload_n hx hb dX11_count_68 rfl (lv_at hl 0 rfl) ?_
    refine gf_X11_35 hx hb hown hk hP 0 rfl rfl dX11_count_69 ?_
    refine gf_X11_118 hx hb hown hk hP 3 rfl rfl dX11_count_72 ?_
    refine gf_X11_148 hx hb hown hk hP 4 rfl rfl dX11_count_75 ?_
    have hR := hC0 _ (sat_some h)
    subst hR
    exact hret _ _ dX11_count_78
  have h := sat_f c1_1 h
  have nc1_1 := ne_ti (z := 1) c1_1 (by decide)
  by_cases c1_2 : x1 = 2
  · have h := sat_t c1_2 h
    refine lv_tableIn (off := 78) (tgt := 79) hx hb dX11_count_1 (by rw [c1_2]; decide) (by rw [c1_2]; decide) (by rw [c1_2]; decide) (by decide) ?_
    refine lv_aload_n hx hb dX11_count_79 rfl (lv_at hl 0 rfl) ?_
    refine gf_X11_28 hx hb hown hk hP 0 rfl rfl dX11_count_80 ?_
    refine gf_X11_243 hx hb hown hk hP 2 rfl rfl dX11_count_83 ?_
    have hR := hC0 _ (sat_some h)
    subst hR
    exact hret _ _ dX11_count_86
  have h := sat_f c1_2 h
  have nc1_2 := ne_ti (z := 2) c1_2 (by decide)
  by_cases c1_3 : x1 = 3
  · have h := sat_t c1_3 h
    refine lv_tableIn (off := 86) (tgt := 87) hx hb dX11_count_1 (by rw [c1_3]; decide) (by rw [c1_3]; decide) (by rw [c1_3]; decide) (by decide) ?_
    refine lv_aload_n hx hb dX11_count_87 rfl (lv_at hl 0 rfl) ?_
    refine gf_X11_28 hx hb hown hk hP 0 rfl rfl dX11_count_88 ?_
    refine gf_X11_246 hx hb hown hk hP 2 rfl rfl dX11_count_91 ?_
    have hR := hC0 _ (sat_some h)
    subst hR
    exact hret _ _ dX11_count_94
  have h := sat_f c1_3 h
  have nc1_3 := ne_ti (z := 3) c1_3 (by decide)
  by_cases c1_4 : x1 = 4
  · have h := sat_t c1_4 h
    refine lv_tableIn (off := 94) (tgt := 95) hx hb dX11_count_1 (by rw [c1_4]; decide) (by rw [c1_4]; decide) (by rw [c1_4]; decide) (by decide) ?_
    refine lv_aload_n hx hb dX11_count_95 rfl (lv_at hl 0 rfl) ?_
    refine gf_X11_28 hx hb hown hk hP 0 rfl rfl dX11_count_96 ?_
    refine gf_X11_249 hx hb hown hk hP 2 rfl rfl dX11_count_99 ?_
    have hR := hC0 _ (sat_some h)
    subst hR
    exact hret _ _ dX11_count_102
  have h := sat_f c1_4 h
  have nc1_4 := ne_ti (z := 4) c1_4 (by decide)
  by_cases c1_5 : x1 = 5
  · have h := sat_t c1_5 h
    refine lv_tableIn (off := 102) (tgt := 103) hx hb dX11_count_1 (by rw [c1_5]; decide) (by rw [c1_5]; decide) (by rw [c1_5]; decide) (by decide) ?_
    refine lv_aload_n hx hb dX11_count_103 rfl (lv_at hl 0 rfl) ?_
    refine gf_X11_28 hx hb hown hk hP 0 rfl rfl dX11_count_104 ?_
    refine gf_X11_252 hx hb hown hk hP 2 rfl rfl dX11_count_107 ?_
    have hR := hC0 _ (sat_some h)
    subst hR
    exact hret _ _ dX11_count_110
  have h := sat_f c1_5 h
  have nc1_5 := ne_ti (z := 5) c1_5 (by decide)
  by_cases c1_6 : x1 = 6
  · have h := sat_t c1_6 h
    refine lv_tableIn (off := 110) (tgt := 111) hx hb dX11_count_1 (by rw [c1_6]; decide) (by rw [c1_6]; decide) (by rw [c1_6]; decide) (by decide) ?_
    refine lv_aload_n hx hb dX11_count_111 rfl (lv_at hl 0 rfl) ?_
    refine gf_X11_28 hx hb hown hk hP 0 rfl rfl dX11_count_112 ?_
    refine gf_X11_255 hx hb hown hk hP 2 rfl rfl dX11_count_115 ?_
    have hR := hC0 _ (sat_some h)
    subst hR
    exact hret _ _ dX11_count_118
  have h := sat_f c1_6 h
  have nc1_6 := ne_ti (z := 6) c1_6 (by decide)
  by_cases c1_7 : x1 = 7
  · have h := sat_t c1_7 h
    refine lv_tableIn (off := 118) (tgt := 119) hx hb dX11_count_1 (by rw [c1_7]; decide) (by rw [c1_7]; decide) (by rw [c1_7]; decide) (by decide) ?_
    refine lv_aload_n hx hb dX11_count_119 rfl (lv_at hl 0 rfl) ?_
    refine gf_X11_35 hx hb hown hk hP 0 rfl rfl dX11_count_120 ?_
    refine gf_X11_258 hx hb hown hk hP 3 rfl rfl dX11_count_123 ?_
    have hR := hC0 _ (sat_some h)
    subst hR
    exact hret _ _ dX11_count_126
  have h := sat_f c1_7 h
  have nc1_7 := ne_ti (z := 7) c1_7 (by decide)
  by_cases c1_8 : x1 = 8
  · have h := sat_t c1_8 h
    refine lv_tableIn (off := 126) (tgt := 127) hx hb dX11_count_1 (by rw [c1_8]; decide) (by rw [c1_8]; decide) (by rw [c1_8]; decide) (by decide) ?_
    refine lv_aload_n hx hb dX11_count_127 rfl (lv_at hl 0 rfl) ?_
    refine gf_X11_81 hx hb hown hk hP 0 rfl rfl dX11_count_128 ?_
    refine gf_X11_114 hx hb hown hk hP 6 rfl rfl dX11_count_131 ?_
    have hR := hC0 _ (sat_some h)
    subst hR
    exact hret _ _ dX11_count_134
  have h := sat_f c1_8 h
  have nc1_8 := ne_ti (z := 8) c1_8 (by decide)
  by_cases c1_9 : x1 = 9
  · have h := sat_t c1_9 h
    refine lv_tableIn (off := 134) (tgt := 135) hx hb dX11_count_1 (by rw [c1_9]; decide) (by rw [c1_9]; decide) (by rw [c1_9]; decide) (by decide) ?_
    refine lv_aload_n hx hb dX11_count_135 rfl (lv_at hl 0 rfl) ?_
    refine gf_X11_12 hx hb hown hk hP 0 rfl rfl dX11_count_136 ?_
    refine gf_X11_89 hx hb hown hk hP 1 rfl rfl dX11_count_139 ?_
    have hR := hC0 _ (sat_some h)
    subst hR
    exact hret _ _ dX11_count_142
  have h := sat_f c1_9 h
  have nc1_9 := ne_ti (z := 9) c1_9 (by decide)
  by_cases c1_10 : x1 = 10
  · have h := sat_t c1_10 h
    refine lv_tableIn (off := 142) (tgt := 143) hx hb dX11_count_1 (by rw [c1_10]; decide) (by rw [c1_10]; decide) (by rw [c1_10]; decide) (by decide) ?_
    refine lv_aload_n hx hb dX11_count_143 rfl (lv_at hl 0 rfl) ?_
    refine gf_X11_51 hx hb hown hk hP 0 rfl rfl dX11_count_144 ?_
    refine gf_X11_110 hx hb hown hk hP 5 rfl rfl dX11_count_147 ?_
    have hR := hC0 _ (sat_some h)
    subst hR
    exact hret _ _ dX11_count_150
  have h := sat_f c1_10 h
  have nc1_10 := ne_ti (z := 10) c1_10 (by decide)
  refine lv_tableOut (tgt := 151) hx hb dX11_count_1 (by omega) (by decide) ?_
  refine lv_iconst (v := (-1)) hx hb dX11_count_151 (by decide) ?_
  have hR := hC0 _ (sat_some h)
  subst hR
  exact hret _ _ dX11_count_152
