def f_X10_follow_L13 (rn : Int32) (ra : Int32) (rf : Int32) (dl : ar) (gs : ar) (md : ar) (tm : Int32) (x2 : Int32) (N : Nat) : Nat → Int32 → Int32 → Int32 → Int32 → Int32 → ar → Option ((Bool × Int32 × Int32 × ar) ⊕ (Int32 × Int32 × ar))
  | 0, _, _, _, _, _, _ => none
  | n + 1, x3_13, x4_13, x5_13, pz_13, pd_13, pn_13 => if 6 ≤ x5_13 then some (.inr (pz_13, pd_13, pn_13)) else ck (inb x5_13 6) (if x4_13 = x2 then some (.inl (true, x5_13 + 1, pd_13, upd pn_13 x5_13.toNatClampNeg x4_13)) else Option.bind (f_X5_bestOf N rn ra rf dl gs md tm x4_13 x2) fun r_1 => if r_1 = (-9) then some (.inl (false, x5_13 + 1, pd_13, upd pn_13 x5_13.toNatClampNeg x4_13)) else if ((x3_13 ||| (1 <<< (x4_13 &&& 31))) &&& (1 <<< (r_1 &&& 31))) = 0 then Option.bind (f_X3_delayOf dl x4_13 r_1) fun r_2 => f_X10_follow_L13 rn ra rf dl gs md tm x2 N n (x3_13 ||| (1 <<< (x4_13 &&& 31))) r_1 (x5_13 + 1) (x5_13 + 1) (pd_13 + r_2) (upd pn_13 x5_13.toNatClampNeg x4_13) else some (.inl (false, x5_13 + 1, pd_13, upd pn_13 x5_13.toNatClampNeg x4_13)))
def f_X10_follow (N : Nat) (rn : Int32) (ra : Int32) (rf : Int32) (dl : ar) (gs : ar) (md : ar) (tm : Int32) (pn : ar) (pz : Int32) (x1 : Int32) (x2 : Int32) : Option (Bool × Int32 × Int32 × ar) := lb (f_X10_follow_L13 rn ra rf dl gs md tm x2 N N 0 x1 0 pz 0 pn) fun s13 => some (false, s13.1, s13.2.1, s13.2.2)
abbrev rm_X10_follow : Room := { frames := 2, cells := 0, slots := 0, locals := 50 }
set_option maxRecDepth 100000 in
set_option maxHeartbeats 4000000 in
theorem k_X10_follow (l : Launch) (D : va_G) (cI cZ cK : ClassId) (N : Nat) (a0 a1 a12 a2 a3 a4 a6 a7 a8 a9 a10 a11 a5 : Nat) (pz : Int32) (pd : Int32) (rn : Int32) (re : Int32) (rh : Int32) (ra : Int32) (rl : Int32) (rf : Int32) (wz : Int32) (tm : Int32) (lt : Int32) (dl : ar) (gs : ar) (md : ar) (pn : ar) (x1 : Int32) (x2 : Int32) (R : Bool × Int32 × Int32 × ar) (h : f_X10_follow N rn ra rf dl gs md tm pn pz x1 x2 = some R) : Mu l D cI cZ cK yX10_follow cX10_follow 7 (some .boolean) rm_X10_follow [.ref a0, .int x1, .int x2] [(a0, .inr (10, [.ref a1, .ref a12, .int pz, .int pd])), (a1, .inr (5, [.ref a2, .ref a3])), (a2, .inr (7, [.int rn, .int re, .int rh, .int ra, .int rl, .int rf])), (a3, .inr (1, [.ref a4, .ref a6, .ref a7, .ref a8, .ref a9, .ref a10, .ref a11, .int wz, .int tm])), (a4, .inr (3, [.ref a5, .int lt])), (a5, .inl (cI, 36, .inl dl)), (a7, .inl (cI, 216, .inl gs)), (a8, .inl (cI, 216, .inl md)), (a12, .inl (cI, 6, .inl pn))] (some (.int (b2i R.1))) [(a0, .inr (10, [.ref a1, .ref a12, .int R.2.1, .int R.2.2.1])), (a1, .inr (5, [.ref a2, .ref a3])), (a2, .inr (7, [.int rn, .int re, .int rh, .int ra, .int rl, .int rf])), (a3, .inr (1, [.ref a4, .ref a6, .ref a7, .ref a8, .ref a9, .ref a10, .ref a11, .int wz, .int tm])), (a4, .inr (3, [.ref a5, .int lt])), (a5, .inl (cI, 36, .inl dl)), (a7, .inl (cI, 216, .inl gs)), (a8, .inl (cI, 216, .inl md)), (a12, .inl (cI, 6, .inl R.2.2.2))] := by
  refine mi_of (by decide) (nar_b _) (Nat.le_of_ble_eq_true rfl) ?_
  intro p e s m args below meth c Q A ls hx hb hml hown hk hA w hret hl
  have hl : lv_has ls 7 [(0, .ref a0), (1, .int x1), (2, .int x2)] := hl
  obtain ⟨C0, hC0, h⟩ := sat_top h
  unfold f_X10_follow at h
  refine lv_aload_n hx hb dX10_follow_0 rfl (lv_at hl 0 rfl) ?_
  refine lv_iconst (v := 0) hx hb dX10_follow_1 (by decide) ?_
  refine pf_X10_19 (ws' := [(a0, .inr (10, [.ref a1, .ref a12, .int pz, .int 0])), (a1, .inr (5, [.ref a2, .ref a3])), (a2, .inr (7, [.int rn, .int re, .int rh, .int ra, .int rl, .int rf])), (a3, .inr (1, [.ref a4, .ref a6, .ref a7, .ref a8, .ref a9, .ref a10, .ref a11, .int wz, .int tm])), (a4, .inr (3, [.ref a5, .int lt])), (a5, .inl (cI, 36, .inl dl)), (a7, .inl (cI, 216, .inl gs)), (a8, .inl (cI, 216, .inl md)), (a12, .inl (cI, 6, .inl pn))]) hx hb hown hk w 0 rfl (Nat.le_of_ble_eq_true rfl) rfl dX10_follow_2 (fun H locs w => ?_)
  refine lv_iconst (v := 0) hx hb dX10_follow_5 (by decide) ?_
  refine lv_istore_n (lv' := [(3, .int 0), (0, .ref a0), (1, .int x1), (2, .int x2)]) hx hb dX10_follow_6 rfl hl (by decide) rfl (fun ls hl => ?_)
  refine lv_iload_n hx hb dX10_follow_7 rfl (lv_at hl 2 rfl) ?_
  refine lv_istore (lv' := [(4, .int x1), (3, .int 0), (0, .ref a0), (1, .int x1), (2, .int x2)]) hx hb dX10_follow_8 hl (by decide) rfl (fun ls hl => ?_)
  refine lv_iconst (v := 0) hx hb dX10_follow_10 (by decide) ?_
  refine lv_istore (lv' := [(5, .int 0), (4, .int x1), (3, .int 0), (0, .ref a0), (1, .int x1), (2, .int x2)]) hx hb dX10_follow_11 hl (by decide) rfl (fun ls hl => ?_)
  obtain ⟨T13, hr13, hT13, h⟩ := sat_lbr h
  have E13 : ∀ (pz_3 : Int32) (pd_4 : Int32) (pn_5 : ar) (H : Heap) (locs : List Loc) (ls : Array Slot), T13 (.inr (pz_3, pd_4, pn_5)) → wd D A s.heap H locs [(a0, .inr (10, [.ref a1, .ref a12, .int pz_3, .int pd_4])), (a1, .inr (5, [.ref a2, .ref a3])), (a2, .inr (7, [.int rn, .int re, .int rh, .int ra, .int rl, .int rf])), (a3, .inr (1, [.ref a4, .ref a6, .ref a7, .ref a8, .ref a9, .ref a10, .ref a11, .int wz, .int tm])), (a4, .inr (3, [.ref a5, .int lt])), (a5, .inl (cI, 36, .inl dl)), (a7, .inl (cI, 216, .inl gs)), (a8, .inl (cI, 216, .inl md)), (a12, .inl (cI, 6, .inl pn_5))] → lv_has ls 7 [] → W p l e rm_X10_follow s m args below meth c H locs 0 0 Q (F0 m 118 ls []) := by
    intro pz_3 pd_4 pn_5 H locs ls h w hl
    have h := hT13 _ h
    dsimp only at h
    refine lv_iconst (v := 0) hx hb dX10_follow_118 (by decide) ?_
    have hR := hC0 _ (sat_some h)
    subst hR
    exact hret _ _ _ _ w dX10_follow_119
  have L13 : ∀ (n : Nat) (x3_13 : Int32) (x4_13 : Int32) (x5_13 : Int32) (pz_13 : Int32) (pd_13 : Int32) (pn_13 : ar) (H : Heap) (locs : List Loc) (ls : Array Slot), sat (f_X10_follow_L13 rn ra rf dl gs md tm x2 N n x3_13 x4_13 x5_13 pz_13 pd_13 pn_13) T13 → wd D A s.heap H locs [(a0, .inr (10, [.ref a1, .ref a12, .int pz_13, .int pd_13])), (a1, .inr (5, [.ref a2, .ref a3])), (a2, .inr (7, [.int rn, .int re, .int rh, .int ra, .int rl, .int rf])), (a3, .inr (1, [.ref a4, .ref a6, .ref a7, .ref a8, .ref a9, .ref a10, .ref a11, .int wz, .int tm])), (a4, .inr (3, [.ref a5, .int lt])), (a5, .inl (cI, 36, .inl dl)), (a7, .inl (cI, 216, .inl gs)), (a8, .inl (cI, 216, .inl md)), (a12, .inl (cI, 6, .inl pn_13))] → lv_has ls 7 [(0, .ref a0), (2, .int x2), (3, .int x3_13), (4, .int x4_13), (5, .int x5_13)] → W p l e rm_X10_follow s m args below meth c H locs 0 0 Q (F0 m 13 ls []) := by
    intro n
    induction n with
    | zero =>
      intro x3_13 x4_13 x5_13 pz_13 pd_13 pn_13 H locs ls h
      rw [f_X10_follow_L13] at h
      exact (sat_none h).elim
    | succ n ih =>
      intro x3_13 x4_13 x5_13 pz_13 pd_13 pn_13 H locs ls h w hl
      rw [f_X10_follow_L13] at h
      refine lv_iload hx hb dX10_follow_13 (lv_at hl 4 rfl) ?_
      refine lv_bipush (v := 6) hx hb dX10_follow_15 (by decide) ?_
      refine lv_icmp_ge (tgt := 118) hx hb dX10_follow_17 (by decide) (fun c17 => ?_) (fun c17 => ?_)
      · have h := sat_t c17 h
        exact E13 pz_13 pd_13 pn_13 _ _ _ (sat_some h) w (lv_sub hl [] rfl)
      · have h := sat_f c17 h
        refine lv_aload_n hx hb dX10_follow_20 rfl (lv_at hl 0 rfl) ?_
        refine gf_X10_9 hx hb hown hk w.1 0 rfl rfl dX10_follow_21 ?_
        refine lv_iload hx hb dX10_follow_24 (lv_at hl 4 rfl) ?_
        refine lv_iload hx hb dX10_follow_26 (lv_at hl 3 rfl) ?_
        obtain ⟨hi, h⟩ := sat_in h
        refine ra_ist (ws' := [(a0, .inr (10, [.ref a1, .ref a12, .int pz_13, .int pd_13])), (a1, .inr (5, [.ref a2, .ref a3])), (a2, .inr (7, [.int rn, .int re, .int rh, .int ra, .int rl, .int rf])), (a3, .inr (1, [.ref a4, .ref a6, .ref a7, .ref a8, .ref a9, .ref a10, .ref a11, .int wz, .int tm])), (a4, .inr (3, [.ref a5, .int lt])), (a5, .inl (cI, 36, .inl dl)), (a7, .inl (cI, 216, .inl gs)), (a8, .inl (cI, 216, .inl md)), (a12, .inl (cI, 6, .inl (upd pn_13 x5_13.toNatClampNeg x4_13)))]) hx hb hk w 8 rfl hi rfl dX10_follow_28 (fun H locs w => ?_)
        refine lv_aload_n hx hb dX10_follow_29 rfl (lv_at hl 0 rfl) ?_
        refine lv_iload hx hb dX10_follow_30 (lv_at hl 4 rfl) ?_
        refine lv_iconst (v := 1) hx hb dX10_follow_32 (by decide) ?_
        refine lv_iadd hx hb dX10_follow_33 ?_
        refine pf_X10_23 (ws' := [(a0, .inr (10, [.ref a1, .ref a12, .int (x5_13 + 1), .int pd_13])), (a1, .inr (5, [.ref a2, .ref a3])), (a2, .inr (7, [.int rn, .int re, .int rh, .int ra, .int rl, .int rf])), (a3, .inr (1, [.ref a4, .ref a6, .ref a7, .ref a8, .ref a9, .ref a10, .ref a11, .int wz, .int tm])), (a4, .inr (3, [.ref a5, .int lt])), (a5, .inl (cI, 36, .inl dl)), (a7, .inl (cI, 216, .inl gs)), (a8, .inl (cI, 216, .inl md)), (a12, .inl (cI, 6, .inl (upd pn_13 x5_13.toNatClampNeg x4_13)))]) hx hb hown hk w 0 rfl (Nat.le_of_ble_eq_true rfl) rfl dX10_follow_34 (fun H locs w => ?_)
        refine lv_iload_n hx hb dX10_follow_37 rfl (lv_at hl 2 rfl) ?_
        refine lv_iconst (v := 1) hx hb dX10_follow_38 (by decide) ?_
        refine lv_iload hx hb dX10_follow_39 (lv_at hl 3 rfl) ?_
        refine lv_ishl hx hb dX10_follow_41 ?_
        refine lv_ior hx hb dX10_follow_42 ?_
        refine lv_istore_n (lv' := [(3, .int (x3_13 ||| (1 <<< (x4_13 &&& 31)))), (0, .ref a0), (2, .int x2), (4, .int x4_13), (5, .int x5_13)]) hx hb dX10_follow_43 rfl hl (by decide) rfl (fun ls hl => ?_)
        refine lv_iload hx hb dX10_follow_44 (lv_at hl 3 rfl) ?_
        refine lv_iload_n hx hb dX10_follow_46 rfl (lv_at hl 2 rfl) ?_
        refine lv_icmp_ne (tgt := 52) hx hb dX10_follow_47 (by decide) (fun c47 => ?_) (fun c47 => ?_)
        · have h := sat_f c47 h
          refine lv_aload_n hx hb dX10_follow_52 rfl (lv_at hl 1 rfl) ?_
          refine gf_X10_15 hx hb hown hk w.1 0 rfl rfl dX10_follow_53 ?_
          refine lv_iload hx hb dX10_follow_56 (lv_at hl 3 rfl) ?_
          refine lv_iload_n hx hb dX10_follow_58 rfl (lv_at hl 2 rfl) ?_
          obtain ⟨r_1, e_1, h⟩ := sat_bind h
          refine cRV (rest := []) hx hb hml hown hk (k_X5_bestOf l D cI cZ cK N a1 a2 a3 a4 a6 a7 a8 a9 a10 a11 a5 rn re rh ra rl rf wz tm lt dl gs md x4_13 x2 r_1 e_1) (me_X5_bestOf hk.2.1) (mi_X5_bestOf hk.2.1) (ml_X10_26 hk.2.1) (w.1.sub [1, 2, 3, 4, 5, 6, 7] rfl) 0 rfl rfl rfl hl.1 rfl rfl (Nat.le_of_ble_eq_true rfl) ⟨rfl, rfl, Nat.le_of_ble_eq_true rfl, Nat.le_of_ble_eq_true rfl, Nat.zero_le _, Nat.zero_le _⟩ dX10_follow_59 ?_
          refine lv_istore (lv' := [(6, .int r_1), (3, .int (x3_13 ||| (1 <<< (x4_13 &&& 31)))), (0, .ref a0), (2, .int x2), (4, .int x4_13), (5, .int x5_13)]) hx hb dX10_follow_62 hl (by decide) rfl (fun ls hl => ?_)
          refine lv_iload hx hb dX10_follow_64 (lv_at hl 0 rfl) ?_
          refine lv_bipush (v := (-9)) hx hb dX10_follow_66 (by decide) ?_
          refine lv_icmp_eq (tgt := 80) hx hb dX10_follow_68 (by decide) (fun c68 => ?_) (fun c68 => ?_)
          · have h := sat_t c68 h
            refine lv_iconst (v := 0) hx hb dX10_follow_80 (by decide) ?_
            have hR := hC0 _ (hr13 _ (sat_some h))
            subst hR
            exact hret _ _ _ _ w dX10_follow_81
          · have h := sat_f c68 h
            refine lv_iload_n hx hb dX10_follow_71 rfl (lv_at hl 1 rfl) ?_
            refine lv_iconst (v := 1) hx hb dX10_follow_72 (by decide) ?_
            refine lv_iload hx hb dX10_follow_73 (lv_at hl 0 rfl) ?_
            refine lv_ishl hx hb dX10_follow_75 ?_
            refine lv_iand hx hb dX10_follow_76 ?_
            refine lv_if_eq (tgt := 82) hx hb dX10_follow_77 (by decide) (fun c77 => ?_) (fun c77 => ?_)
            · have h := sat_t c77 h
              refine lv_aload_n hx hb dX10_follow_82 rfl (lv_at hl 2 rfl) ?_
              refine lv_dup hx hb dX10_follow_83 rfl ?_
              refine gf_X10_19 hx hb hown hk w.1 0 rfl rfl dX10_follow_84 ?_
              refine lv_aload_n hx hb dX10_follow_87 rfl (lv_at hl 2 rfl) ?_
              refine gf_X10_15 hx hb hown hk w.1 0 rfl rfl dX10_follow_88 ?_
              refine gf_X10_32 hx hb hown hk w.1 1 rfl rfl dX10_follow_91 ?_
              refine gf_X10_36 hx hb hown hk w.1 3 rfl rfl dX10_follow_94 ?_
              refine lv_iload hx hb dX10_follow_97 (lv_at hl 4 rfl) ?_
              refine lv_iload hx hb dX10_follow_99 (lv_at hl 0 rfl) ?_
              obtain ⟨r_2, e_2, h⟩ := sat_bind h
              refine cRV (rest := [.int pd_13, .ref a0]) hx hb hml hown hk (k_X3_delayOf l D cI cZ cK a4 a5 lt dl x4_13 r_1 r_2 e_2) (me_X3_delayOf hk.2.1) (mi_X3_delayOf hk.2.1) (ml_X10_42 hk.2.1) (w.1.sub [4, 5] rfl) 0 rfl rfl rfl hl.1 rfl rfl (Nat.le_of_ble_eq_true rfl) ⟨rfl, rfl, Nat.le_of_ble_eq_true rfl, Nat.le_of_ble_eq_true rfl, Nat.zero_le _, Nat.zero_le _⟩ dX10_follow_101 ?_
              refine lv_iadd hx hb dX10_follow_104 ?_
              refine pf_X10_19 (ws' := [(a0, .inr (10, [.ref a1, .ref a12, .int (x5_13 + 1), .int (pd_13 + r_2)])), (a1, .inr (5, [.ref a2, .ref a3])), (a2, .inr (7, [.int rn, .int re, .int rh, .int ra, .int rl, .int rf])), (a3, .inr (1, [.ref a4, .ref a6, .ref a7, .ref a8, .ref a9, .ref a10, .ref a11, .int wz, .int tm])), (a4, .inr (3, [.ref a5, .int lt])), (a5, .inl (cI, 36, .inl dl)), (a7, .inl (cI, 216, .inl gs)), (a8, .inl (cI, 216, .inl md)), (a12, .inl (cI, 6, .inl (upd pn_13 x5_13.toNatClampNeg x4_13)))]) hx hb hown hk w 0 rfl (Nat.le_of_ble_eq_true rfl) rfl dX10_follow_105 (fun H locs w => ?_)
              refine lv_iload hx hb dX10_follow_108 (lv_at hl 0 rfl) ?_
              refine lv_istore (lv' := [(4, .int r_1), (6, .int r_1), (3, .int (x3_13 ||| (1 <<< (x4_13 &&& 31)))), (0, .ref a0), (2, .int x2), (5, .int x5_13)]) hx hb dX10_follow_110 hl (by decide) rfl (fun ls hl => ?_)
              refine lv_iinc (v := x5_13 + 1) (lv' := [(5, .int (x5_13 + 1)), (4, .int r_1), (6, .int r_1), (3, .int (x3_13 ||| (1 <<< (x4_13 &&& 31)))), (0, .ref a0), (2, .int x2)]) hx hb dX10_follow_112 hl (k := 5) rfl (congrArg (fun z => x5_13 + z) (by decide)) (by decide) rfl (fun ls hl => ?_)
              refine lv_goto (tgt := 13) hx hb dX10_follow_115 (by decide) ?_
              exact ih (x3_13 ||| (1 <<< (x4_13 &&& 31))) r_1 (x5_13 + 1) (x5_13 + 1) (pd_13 + r_2) (upd pn_13 x5_13.toNatClampNeg x4_13) _ _ _ h w (lv_sub hl [4, 5, 3, 1, 0] rfl)
            · have h := sat_f c77 h
              refine lv_iconst (v := 0) hx hb dX10_follow_80 (by decide) ?_
              have hR := hC0 _ (hr13 _ (sat_some h))
              subst hR
              exact hret _ _ _ _ w dX10_follow_81
        · have h := sat_t c47 h
          refine lv_iconst (v := 1) hx hb dX10_follow_50 (by decide) ?_
          have hR := hC0 _ (hr13 _ (sat_some h))
          subst hR
          exact hret _ _ _ _ w dX10_follow_51
  exact L13 N 0 x1 0 pz 0 pn _ _ _ h w (lv_sub hl [3, 5, 2, 1, 0] rfl)
def f_X2_stepFrom (odl : ar) (x2 : Int32) (x3 : Int32) (x4 : Int32) : Option (Int32) := if x2 = x3 then some 0 else Option.bind (f_X3_delayOf odl x2 x3) fun r_1 => if r_1 = 0 then some 1000000 else Option.bind (f_X11_pairCell (if x3 < x2 then x3 else x2) (if x2 < x3 then x3 else x2)) fun r_2 => if r_2 = x4 then some 1000000 else some r_1
abbrev rm_X2_stepFrom : Room := { frames := 2, cells := 0, slots := 0, locals := 43 }
set_option maxRecDepth 100000 in
set_option maxHeartbeats 4000000 in
theorem k_X2_stepFrom (l : Launch) (D : va_G) (cI cZ cK : ClassId) (a0 a1 b0 a2 : Nat) (sn : Int32) (olt : Int32) (odl : ar) (x2 : Int32) (x3 : Int32) (x4 : Int32) (R : Int32) (h : f_X2_stepFrom odl x2 x3 x4 = some R) : Rd l D cI cZ cK yX2_stepFrom cX2_stepFrom 6 (some .int) rm_X2_stepFrom [.ref a0, .ref b0, .int x2, .int x3, .int x4] [(a0, .inr (2, [.ref a1, .int sn])), (b0, .inr (3, [.ref a2, .int olt])), (a2, .inl (cI, 36, .inl odl))] R := by
  refine rd_of (by decide) (vp_nar_int _) (Nat.le_of_ble_eq_true rfl) ?_
  intro p e s m args below meth c Q ls hx hb hml hown hk hP hret hl
  have hl : lv_has ls 6 [(0, .ref a0), (1, .ref b0), (2, .int x2), (3, .int x3), (4, .int x4)] := hl
  obtain ⟨C0, hC0, h⟩ := sat_top h
  unfold f_X2_stepFrom at h
  refine lv_iload_n hx hb dX2_stepFrom_0 rfl (lv_at hl 2 rfl) ?_
  refine lv_iload_n hx hb dX2_stepFrom_1 rfl (lv_at hl 3 rfl) ?_
  refine lv_icmp_ne (tgt := 7) hx hb dX2_stepFrom_2 (by decide) (fun c2 => ?_) (fun c2 => ?_)
  · have h := sat_f c2 h
    refine lv_aload_n hx hb dX2_stepFrom_7 rfl (lv_at hl 1 rfl) ?_
    refine lv_iload_n hx hb dX2_stepFrom_8 rfl (lv_at hl 2 rfl) ?_
    refine lv_iload_n hx hb dX2_stepFrom_9 rfl (lv_at hl 3 rfl) ?_
    obtain ⟨r_1, e_1, h⟩ := sat_bind h
    refine cRV (rest := []) hx hb hml hown hk (k_X3_delayOf l D cI cZ cK b0 a2 olt odl x2 x3 r_1 e_1) (me_X3_delayOf hk.2.1) (mi_X3_delayOf hk.2.1) (ml_X2_32 hk.2.1) (hP.sub [1, 2] rfl) 0 rfl rfl rfl hl.1 rfl rfl (Nat.le_of_ble_eq_true rfl) ⟨rfl, rfl, Nat.le_of_ble_eq_true rfl, Nat.le_of_ble_eq_true rfl, Nat.zero_le _, Nat.zero_le _⟩ dX2_stepFrom_10 ?_
    refine lv_istore (lv' := [(5, .int r_1), (0, .ref a0), (1, .ref b0), (2, .int x2), (3, .int x3), (4, .int x4)]) hx hb dX2_stepFrom_13 hl (by decide) rfl (fun ls hl => ?_)
    refine lv_iload hx hb dX2_stepFrom_15 (lv_at hl 0 rfl) ?_
    refine lv_if_eq (tgt := 38) hx hb dX2_stepFrom_17 (by decide) (fun c17 => ?_) (fun c17 => ?_)
    · have h := sat_t c17 h
      refine lv_ldc (v := 1000000) hx hb hown (co_X2_40 hk.2.1 args) dX2_stepFrom_38 ?_
      have hR := hC0 _ (sat_some h)
      subst hR
      exact hret _ _ dX2_stepFrom_40
    · have h := sat_f c17 h
      refine lv_iload_n hx hb dX2_stepFrom_20 rfl (lv_at hl 3 rfl) ?_
      refine lv_iload_n hx hb dX2_stepFrom_21 rfl (lv_at hl 4 rfl) ?_
      refine mm_X2_27 hx hb hml hl.1 hown hk ⟨Nat.le_of_ble_eq_true rfl, Nat.le_of_ble_eq_true rfl, Nat.zero_le _, Nat.zero_le _⟩ rfl dX2_stepFrom_22 ?_
      refine lv_iload_n hx hb dX2_stepFrom_25 rfl (lv_at hl 3 rfl) ?_
      refine lv_iload_n hx hb dX2_stepFrom_26 rfl (lv_at hl 4 rfl) ?_
      refine mm_X2_37 hx hb hml hl.1 hown hk ⟨Nat.le_of_ble_eq_true rfl, Nat.le_of_ble_eq_true rfl, Nat.zero_le _, Nat.zero_le _⟩ rfl dX2_stepFrom_27 ?_
      obtain ⟨r_2, e_2, h⟩ := sat_bind h
      refine cRN (rest := []) hx hb hml hown hk (k_X11_pairCell l D cI cZ cK (if x3 < x2 then x3 else x2) (if x2 < x3 then x3 else x2) r_2 e_2) (me_X11_pairCell hk.2.1) (ms_X11_pairCell hk.2.1) (hk.2.2.1 (RX2, 19, yX11_pairCell) (List.mem_of_getElem? (i := 8) rfl)) (hP.sub [] rfl) hl.1 rfl rfl (Nat.le_of_ble_eq_true rfl) ⟨rfl, rfl, Nat.le_of_ble_eq_true rfl, Nat.le_of_ble_eq_true rfl, Nat.zero_le _, Nat.zero_le _⟩ dX2_stepFrom_30 ?_
      refine lv_iload hx hb dX2_stepFrom_33 (lv_at hl 5 rfl) ?_
      refine lv_icmp_ne (tgt := 41) hx hb dX2_stepFrom_35 (by decide) (fun c35 => ?_) (fun c35 => ?_)
      · have h := sat_f c35 h
        refine lv_iload hx hb dX2_stepFrom_41 (lv_at hl 0 rfl) ?_
        have hR := hC0 _ (sat_some h)
        subst hR
        exact hret _ _ dX2_stepFrom_43
      · have h := sat_t c35 h
        refine lv_ldc (v := 1000000) hx hb hown (co_X2_40 hk.2.1 args) dX2_stepFrom_38 ?_
        have hR := hC0 _ (sat_some h)
        subst hR
        exact hret _ _ dX2_stepFrom_40
  · have h := sat_t c2 h
    refine lv_iconst (v := 0) hx hb dX2_stepFrom_5 (by decide) ?_
    have hR := hC0 _ (sat_some h)
    subst hR
    exact hret _ _ dX2_stepFrom_6
def f_X2_measure_L20 (odl : ar) (x2 : Int32) (x3 : Int32) (x4_8 : Int32) : Nat → Int32 → ar → Option (ar)
  | 0, _, _ => none
  | n + 1, x5_20, sm_20 => if x2 ≤ x5_20 then some sm_20 else Option.bind (f_X11_pairCell x4_8 x5_20) fun r_1 => Option.bind (f_X2_stepFrom odl x4_8 x5_20 x3) fun r_2 => ck (inb r_1 36) (f_X2_measure_L20 odl x2 x3 x4_8 n (x5_20 + 1) (upd sm_20 r_1.toNatClampNeg r_2))
def f_X2_measure_L8 (odl : ar) (x2 : Int32) (x3 : Int32) (N : Nat) : Nat → Int32 → ar → Option (ar)
  | 0, _, _ => none
  | n + 1, x4_8, sm_8 => if x2 ≤ x4_8 then some sm_8 else Option.bind (f_X2_measure_L20 odl x2 x3 x4_8 N 0 sm_8) fun s20 => f_X2_measure_L8 odl x2 x3 N n (x4_8 + 1) s20
def f_X2_measure_L90 (x2 : Int32) (x4_66 : Int32) (x5_78 : Int32) : Nat → Int32 → ar → Option (ar)
  | 0, _, _ => none
  | n + 1, x6_90, sm_90 => if x2 ≤ x6_90 then some sm_90 else Option.bind (f_X11_pairCell x5_78 x4_66) fun r_5 => ck (inb r_5 36) (Option.bind (f_X11_pairCell x4_66 x6_90) fun r_6 => ck (inb r_6 36) (Option.bind (f_X11_pairCell x5_78 x6_90) fun r_7 => Option.bind (f_X11_pairCell x5_78 x6_90) fun r_8 => ck (inb r_8 36) (ck (inb r_7 36) (f_X2_measure_L90 x2 x4_66 x5_78 n (x6_90 + 1) (upd sm_90 r_7.toNatClampNeg (if ((sm_90 r_5.toNatClampNeg) + (sm_90 r_6.toNatClampNeg)) < (sm_90 r_8.toNatClampNeg) then (sm_90 r_5.toNatClampNeg) + (sm_90 r_6.toNatClampNeg) else sm_90 r_8.toNatClampNeg))))))
def f_X2_measure_L78 (x2 : Int32) (N : Nat) (x4_66 : Int32) : Nat → Int32 → ar → Option (ar)
  | 0, _, _ => none
  | n + 1, x5_78, sm_78 => if x2 ≤ x5_78 then some sm_78 else Option.bind (f_X2_measure_L90 x2 x4_66 x5_78 N 0 sm_78) fun s90 => f_X2_measure_L78 x2 N x4_66 n (x5_78 + 1) s90
def f_X2_measure_L66 (x2 : Int32) (N : Nat) : Nat → Int32 → ar → Option (ar)
  | 0, _, _ => none
  | n + 1, x4_66, sm_66 => if x2 ≤ x4_66 then some sm_66 else Option.bind (f_X2_measure_L78 x2 N x4_66 N 0 sm_66) fun s78 => f_X2_measure_L66 x2 N n (x4_66 + 1) s78
def f_X2_measure (N : Nat) (sm : ar) (odl : ar) (x2 : Int32) (x3 : Int32) : Option (Int32 × ar) := Option.bind (f_X2_measure_L8 odl x2 x3 N N 0 sm) fun s8 => Option.bind (f_X2_measure_L66 x2 N N 0 s8) fun s66 => some (x2, s66)
abbrev rm_X2_measure : Room := { frames := 3, cells := 0, slots := 0, locals := 68 }
set_option maxRecDepth 100000 in
set_option maxHeartbeats 4000000 in
theorem k_X2_measure (l : Launch) (D : va_G) (cI cZ cK : ClassId) (N : Nat) (a0 a1 b0 a2 : Nat) (sn : Int32) (sm : ar) (olt : Int32) (odl : ar) (x2 : Int32) (x3 : Int32) (R : Int32 × ar) (h : f_X2_measure N sm odl x2 x3 = some R) : Mu l D cI cZ cK yX2_measure cX2_measure 8 none rm_X2_measure [.ref a0, .ref b0, .int x2, .int x3] [(a0, .inr (2, [.ref a1, .int sn])), (a1, .inl (cI, 36, .inl sm)), (b0, .inr (3, [.ref a2, .int olt])), (a2, .inl (cI, 36, .inl odl))] none [(a0, .inr (2, [.ref a1, .int R.1])), (a1, .inl (cI, 36, .inl R.2)), (b0, .inr (3, [.ref a2, .int olt])), (a2, .inl (cI, 36, .inl odl))] := by
  refine mv_of (by decide) (Nat.le_of_ble_eq_true rfl) ?_
  intro p e s m args below meth c Q A ls hx hb hml hown hk hA w hret hl
  have hl : lv_has ls 8 [(0, .ref a0), (1, .ref b0), (2, .int x2), (3, .int x3)] := hl
  obtain ⟨C0, hC0, h⟩ := sat_top h
  unfold f_X2_measure at h
  refine lv_aload_n hx hb dX2_measure_0 rfl (lv_at hl 0 rfl) ?_
  refine lv_iload_n hx hb dX2_measure_1 rfl (lv_at hl 2 rfl) ?_
  refine pf_X2_15 (ws' := [(a0, .inr (2, [.ref a1, .int x2])), (a1, .inl (cI, 36, .inl sm)), (b0, .inr (3, [.ref a2, .int olt])), (a2, .inl (cI, 36, .inl odl))]) hx hb hown hk w 0 rfl (Nat.le_of_ble_eq_true rfl) rfl dX2_measure_2 (fun H locs w => ?_)
  refine lv_iconst (v := 0) hx hb dX2_measure_5 (by decide) ?_
  refine lv_istore (lv' := [(4, .int 0), (0, .ref a0), (1, .ref b0), (2, .int x2), (3, .int x3)]) hx hb dX2_measure_6 hl (by decide) rfl (fun ls hl => ?_)
  obtain ⟨T8, hT8, h⟩ := sat_reg h
  have E8 : ∀ (sm_4 : ar) (H : Heap) (locs : List Loc) (ls : Array Slot), T8 sm_4 → wd D A s.heap H locs [(a0, .inr (2, [.ref a1, .int x2])), (a1, .inl (cI, 36, .inl sm_4)), (b0, .inr (3, [.ref a2, .int olt])), (a2, .inl (cI, 36, .inl odl))] → lv_has ls 8 [(0, .ref a0)] → W p l e rm_X2_measure s m args below meth c H locs 0 0 Q (F0 m 63 ls []) := by
    intro sm_4 H locs ls h w hl
    have h := hT8 _ h
    refine lv_iconst (v := 0) hx hb dX2_measure_63 (by decide) ?_
    refine lv_istore (lv' := [(4, .int 0), (0, .ref a0)]) hx hb dX2_measure_64 hl (by decide) rfl (fun ls hl => ?_)
    obtain ⟨T66, hT66, h⟩ := sat_reg h
    have E66 : ∀ (sm_11 : ar) (H : Heap) (locs : List Loc) (ls : Array Slot), T66 sm_11 → wd D A s.heap H locs [(a0, .inr (2, [.ref a1, .int x2])), (a1, .inl (cI, 36, .inl sm_11)), (b0, .inr (3, [.ref a2, .int olt])), (a2, .inl (cI, 36, .inl odl))] → lv_has ls 8 [] → W p l e rm_X2_measure s m args below meth c H locs 0 0 Q (F0 m 173 ls []) := by
      intro sm_11 H locs ls h w hl
      have h := hT66 _ h
      have hR := hC0 _ (sat_some h)
      subst hR
      exact hret _ _ _ _ w dX2_measure_173
    have L66 : ∀ (n : Nat) (x4_66 : Int32) (sm_66 : ar) (H : Heap) (locs : List Loc) (ls : Array Slot), sat (f_X2_measure_L66 x2 N n x4_66 sm_66) T66 → wd D A s.heap H locs [(a0, .inr (2, [.ref a1, .int x2])), (a1, .inl (cI, 36, .inl sm_66)), (b0, .inr (3, [.ref a2, .int olt])), (a2, .inl (cI, 36, .inl odl))] → lv_has ls 8 [(0, .ref a0), (4, .int x4_66)] → W p l e rm_X2_measure s m args below meth c H locs 0 0 Q (F0 m 66 ls []) := by
      intro n
      induction n with
      | zero =>
        intro x4_66 sm_66 H locs ls h
        rw [f_X2_measure_L66] at h
        exact (sat_none h).elim
      | succ n ih =>
        intro x4_66 sm_66 H locs ls h w hl
        rw [f_X2_measure_L66] at h
        refine lv_iload hx hb dX2_measure_66 (lv_at hl 1 rfl) ?_
        refine lv_aload_n hx hb dX2_measure_68 rfl (lv_at hl 0 rfl) ?_
        refine gf_X2_15 hx hb hown hk w.1 0 rfl rfl dX2_measure_69 ?_
        refine lv_icmp_ge (tgt := 173) hx hb dX2_measure_72 (by decide) (fun c72 => ?_) (fun c72 => ?_)
        · have h := sat_t c72 h
          exact E66 sm_66 _ _ _ (sat_some h) w (lv_sub hl [] rfl)
        · have h := sat_f c72 h
          refine lv_iconst (v := 0) hx hb dX2_measure_75 (by decide) ?_
          refine lv_istore (lv' := [(5, .int 0), (0, .ref a0), (4, .int x4_66)]) hx hb dX2_measure_76 hl (by decide) rfl (fun ls hl => ?_)
          obtain ⟨T78, hT78, h⟩ := sat_reg h
          have E78 : ∀ (sm_10 : ar) (H : Heap) (locs : List Loc) (ls : Array Slot), T78 sm_10 → wd D A s.heap H locs [(a0, .inr (2, [.ref a1, .int x2])), (a1, .inl (cI, 36, .inl sm_10)), (b0, .inr (3, [.ref a2, .int olt])), (a2, .inl (cI, 36, .inl odl))] → lv_has ls 8 [(0, .ref a0), (4, .int x4_66)] → W p l e rm_X2_measure s m args below meth c H locs 0 0 Q (F0 m 167 ls []) := by
            intro sm_10 H locs ls h w hl
            have h := hT78 _ h
            refine lv_iinc (v := x4_66 + 1) (lv' := [(4, .int (x4_66 + 1)), (0, .ref a0)]) hx hb dX2_measure_167 hl (k := 1) rfl (congrArg (fun z => x4_66 + z) (by decide)) (by decide) rfl (fun ls hl => ?_)
            refine lv_goto (tgt := 66) hx hb dX2_measure_170 (by decide) ?_
            exact ih (x4_66 + 1) sm_10 _ _ _ h w (lv_sub hl [1, 0] rfl)
          have L78 : ∀ (n : Nat) (x5_78 : Int32) (sm_78 : ar) (H : Heap) (locs : List Loc) (ls : Array Slot), sat (f_X2_measure_L78 x2 N x4_66 n x5_78 sm_78) T78 → wd D A s.heap H locs [(a0, .inr (2, [.ref a1, .int x2])), (a1, .inl (cI, 36, .inl sm_78)), (b0, .inr (3, [.ref a2, .int olt])), (a2, .inl (cI, 36, .inl odl))] → lv_has ls 8 [(0, .ref a0), (4, .int x4_66), (5, .int x5_78)] → W p l e rm_X2_measure s m args below meth c H locs 0 0 Q (F0 m 78 ls []) := by
            intro n
            induction n with
            | zero =>
              intro x5_78 sm_78 H locs ls h
              rw [f_X2_measure_L78] at h
              exact (sat_none h).elim
            | succ n ih =>
              intro x5_78 sm_78 H locs ls h w hl
              rw [f_X2_measure_L78] at h
              refine lv_iload hx hb dX2_measure_78 (lv_at hl 2 rfl) ?_
              refine lv_aload_n hx hb dX2_measure_80 rfl (lv_at hl 0 rfl) ?_
              refine gf_X2_15 hx hb hown hk w.1 0 rfl rfl dX2_measure_81 ?_
              refine lv_icmp_ge (tgt := 167) hx hb dX2_measure_84 (by decide) (fun c84 => ?_) (fun c84 => ?_)
              · have h := sat_t c84 h
                exact E78 sm_78 _ _ _ (sat_some h) w (lv_sub hl [0, 1] rfl)
              · have h := sat_f c84 h
                refine lv_iconst (v := 0) hx hb dX2_measure_87 (by decide) ?_
                refine lv_istore (lv' := [(6, .int 0), (0, .ref a0), (4, .int x4_66), (5, .int x5_78)]) hx hb dX2_measure_88 hl (by decide) rfl (fun ls hl => ?_)
                obtain ⟨T90, hT90, h⟩ := sat_reg h
                have E90 : ∀ (sm_9 : ar) (H : Heap) (locs : List Loc) (ls : Array Slot), T90 sm_9 → wd D A s.heap H locs [(a0, .inr (2, [.ref a1, .int x2])), (a1, .inl (cI, 36, .inl sm_9)), (b0, .inr (3, [.ref a2, .int olt])), (a2, .inl (cI, 36, .inl odl))] → lv_has ls 8 [(0, .ref a0), (4, .int x4_66), (5, .int x5_78)] → W p l e rm_X2_measure s m args below meth c H locs 0 0 Q (F0 m 161 ls []) := by
                  intro sm_9 H locs ls h w hl
                  have h := hT90 _ h
                  refine lv_iinc (v := x5_78 + 1) (lv' := [(5, .int (x5_78 + 1)), (0, .ref a0), (4, .int x4_66)]) hx hb dX2_measure_161 hl (k := 2) rfl (congrArg (fun z => x5_78 + z) (by decide)) (by decide) rfl (fun ls hl => ?_)
                  refine lv_goto (tgt := 78) hx hb dX2_measure_164 (by decide) ?_
                  exact ih (x5_78 + 1) sm_9 _ _ _ h w (lv_sub hl [1, 2, 0] rfl)
                have L90 : ∀ (n : Nat) (x6_90 : Int32) (sm_90 : ar) (H : Heap) (locs : List Loc) (ls : Array Slot), sat (f_X2_measure_L90 x2 x4_66 x5_78 n x6_90 sm_90) T90 → wd D A s.heap H locs [(a0, .inr (2, [.ref a1, .int x2])), (a1, .inl (cI, 36, .inl sm_90)), (b0, .inr (3, [.ref a2, .int olt])), (a2, .inl (cI, 36, .inl odl))] → lv_has ls 8 [(0, .ref a0), (4, .int x4_66), (5, .int x5_78), (6, .int x6_90)] → W p l e rm_X2_measure s m args below meth c H locs 0 0 Q (F0 m 90 ls []) := by
                  intro n
                  induction n with
                  | zero =>
                    intro x6_90 sm_90 H locs ls h
                    rw [f_X2_measure_L90] at h
                    exact (sat_none h).elim
                  | succ n ih =>
                    intro x6_90 sm_90 H locs ls h w hl
                    rw [f_X2_measure_L90] at h
                    refine lv_iload hx hb dX2_measure_90 (lv_at hl 3 rfl) ?_
                    refine lv_aload_n hx hb dX2_measure_92 rfl (lv_at hl 0 rfl) ?_
                    refine gf_X2_15 hx hb hown hk w.1 0 rfl rfl dX2_measure_93 ?_
                    refine lv_icmp_ge (tgt := 161) hx hb dX2_measure_96 (by decide) (fun c96 => ?_) (fun c96 => ?_)
                    · have h := sat_t c96 h
                      exact E90 sm_90 _ _ _ (sat_some h) w (lv_sub hl [0, 1, 2] rfl)
                    · have h := sat_f c96 h
                      refine lv_aload_n hx hb dX2_measure_99 rfl (lv_at hl 0 rfl) ?_
                      refine gf_X2_9 hx hb hown hk w.1 0 rfl rfl dX2_measure_100 ?_
                      refine lv_iload hx hb dX2_measure_103 (lv_at hl 2 rfl) ?_
                      refine lv_iload hx hb dX2_measure_105 (lv_at hl 1 rfl) ?_
                      obtain ⟨r_5, e_5, h⟩ := sat_bind h
                      refine cRN (rest := [.ref a1]) hx hb hml hown hk (k_X11_pairCell l D cI cZ cK x5_78 x4_66 r_5 e_5) (me_X11_pairCell hk.2.1) (ms_X11_pairCell hk.2.1) (hk.2.2.1 (RX2, 19, yX11_pairCell) (List.mem_of_getElem? (i := 8) rfl)) (w.1.sub [] rfl) hl.1 rfl rfl (Nat.le_of_ble_eq_true rfl) ⟨rfl, rfl, Nat.le_of_ble_eq_true rfl, Nat.le_of_ble_eq_true rfl, Nat.zero_le _, Nat.zero_le _⟩ dX2_measure_107 ?_
                      obtain ⟨hi, h⟩ := sat_in h
                      refine va_iald hx hb hk.1 w.1 1 0 rfl rfl hi dX2_measure_110 ?_
                      refine lv_aload_n hx hb dX2_measure_111 rfl (lv_at hl 0 rfl) ?_
                      refine gf_X2_9 hx hb hown hk w.1 0 rfl rfl dX2_measure_112 ?_
                      refine lv_iload hx hb dX2_measure_115 (lv_at hl 1 rfl) ?_
                      refine lv_iload hx hb dX2_measure_117 (lv_at hl 3 rfl) ?_
                      obtain ⟨r_6, e_6, h⟩ := sat_bind h
                      refine cRN (rest := [.ref a1, .int (sm_90 r_5.toNatClampNeg)]) hx hb hml hown hk (k_X11_pairCell l D cI cZ cK x4_66 x6_90 r_6 e_6) (me_X11_pairCell hk.2.1) (ms_X11_pairCell hk.2.1) (hk.2.2.1 (RX2, 19, yX11_pairCell) (List.mem_of_getElem? (i := 8) rfl)) (w.1.sub [] rfl) hl.1 rfl rfl (Nat.le_of_ble_eq_true rfl) ⟨rfl, rfl, Nat.le_of_ble_eq_true rfl, Nat.le_of_ble_eq_true rfl, Nat.zero_le _, Nat.zero_le _⟩ dX2_measure_119 ?_
                      obtain ⟨hi, h⟩ := sat_in h
                      refine va_iald hx hb hk.1 w.1 1 0 rfl rfl hi dX2_measure_122 ?_
                      refine lv_iadd hx hb dX2_measure_123 ?_
                      refine lv_istore (lv' := [(7, .int ((sm_90 r_5.toNatClampNeg) + (sm_90 r_6.toNatClampNeg))), (0, .ref a0), (4, .int x4_66), (5, .int x5_78), (6, .int x6_90)]) hx hb dX2_measure_124 hl (by decide) rfl (fun ls hl => ?_)
                      refine lv_aload_n hx hb dX2_measure_126 rfl (lv_at hl 1 rfl) ?_
                      refine gf_X2_9 hx hb hown hk w.1 0 rfl rfl dX2_measure_127 ?_
                      refine lv_iload hx hb dX2_measure_130 (lv_at hl 3 rfl) ?_
                      refine lv_iload hx hb dX2_measure_132 (lv_at hl 4 rfl) ?_
                      obtain ⟨r_7, e_7, h⟩ := sat_bind h
                      refine cRN (rest := [.ref a1]) hx hb hml hown hk (k_X11_pairCell l D cI cZ cK x5_78 x6_90 r_7 e_7) (me_X11_pairCell hk.2.1) (ms_X11_pairCell hk.2.1) (hk.2.2.1 (RX2, 19, yX11_pairCell) (List.mem_of_getElem? (i := 8) rfl)) (w.1.sub [] rfl) hl.1 rfl rfl (Nat.le_of_ble_eq_true rfl) ⟨rfl, rfl, Nat.le_of_ble_eq_true rfl, Nat.le_of_ble_eq_true rfl, Nat.zero_le _, Nat.zero_le _⟩ dX2_measure_134 ?_
                      refine lv_aload_n hx hb dX2_measure_137 rfl (lv_at hl 1 rfl) ?_
                      refine gf_X2_9 hx hb hown hk w.1 0 rfl rfl dX2_measure_138 ?_
                      refine lv_iload hx hb dX2_measure_141 (lv_at hl 3 rfl) ?_
                      refine lv_iload hx hb dX2_measure_143 (lv_at hl 4 rfl) ?_
                      obtain ⟨r_8, e_8, h⟩ := sat_bind h
                      refine cRN (rest := [.ref a1, .int r_7, .ref a1]) hx hb hml hown hk (k_X11_pairCell l D cI cZ cK x5_78 x6_90 r_8 e_8) (me_X11_pairCell hk.2.1) (ms_X11_pairCell hk.2.1) (hk.2.2.1 (RX2, 19, yX11_pairCell) (List.mem_of_getElem? (i := 8) rfl)) (w.1.sub [] rfl) hl.1 rfl rfl (Nat.le_of_ble_eq_true rfl) ⟨rfl, rfl, Nat.le_of_ble_eq_true rfl, Nat.le_of_ble_eq_true rfl, Nat.zero_le _, Nat.zero_le _⟩ dX2_measure_145 ?_
                      obtain ⟨hi, h⟩ := sat_in h
                      refine va_iald hx hb hk.1 w.1 1 0 rfl rfl hi dX2_measure_148 ?_
                      refine lv_iload hx hb dX2_measure_149 (lv_at hl 0 rfl) ?_
                      refine mm_X2_27 hx hb hml hl.1 hown hk ⟨Nat.le_of_ble_eq_true rfl, Nat.le_of_ble_eq_true rfl, Nat.zero_le _, Nat.zero_le _⟩ rfl dX2_measure_151 ?_
                      obtain ⟨hi, h⟩ := sat_in h
                      refine ra_ist (ws' := [(a0, .inr (2, [.ref a1, .int x2])), (a1, .inl (cI, 36, .inl (upd sm_90 r_7.toNatClampNeg (if ((sm_90 r_5.toNatClampNeg) + (sm_90 r_6.toNatClampNeg)) < (sm_90 r_8.toNatClampNeg) then (sm_90 r_5.toNatClampNeg) + (sm_90 r_6.toNatClampNeg) else sm_90 r_8.toNatClampNeg)))), (b0, .inr (3, [.ref a2, .int olt])), (a2, .inl (cI, 36, .inl odl))]) hx hb hk w 1 rfl hi rfl dX2_measure_154 (fun H locs w => ?_)
                      refine lv_iinc (v := x6_90 + 1) (lv' := [(6, .int (x6_90 + 1)), (7, .int ((sm_90 r_5.toNatClampNeg) + (sm_90 r_6.toNatClampNeg))), (0, .ref a0), (4, .int x4_66), (5, .int x5_78)]) hx hb dX2_measure_155 hl (k := 4) rfl (congrArg (fun z => x6_90 + z) (by decide)) (by decide) rfl (fun ls hl => ?_)
                      refine lv_goto (tgt := 90) hx hb dX2_measure_158 (by decide) ?_
                      exact ih (x6_90 + 1) (upd sm_90 r_7.toNatClampNeg (if ((sm_90 r_5.toNatClampNeg) + (sm_90 r_6.toNatClampNeg)) < (sm_90 r_8.toNatClampNeg) then (sm_90 r_5.toNatClampNeg) + (sm_90 r_6.toNatClampNeg) else sm_90 r_8.toNatClampNeg)) _ _ _ h w (lv_sub hl [2, 3, 4, 0] rfl)
                exact L90 N 0 sm_78 _ _ _ h w (lv_sub hl [1, 2, 3, 0] rfl)
          exact L78 N 0 sm_66 _ _ _ h w (lv_sub hl [1, 2, 0] rfl)
    exact L66 N 0 sm_4 _ _ _ h w (lv_sub hl [1, 0] rfl)
  have L8 : ∀ (n : Nat) (x4_8 : Int32) (sm_8 : ar) (H : Heap) (locs : List Loc) (ls : Array Slot), sat (f_X2_measure_L8 odl x2 x3 N n x4_8 sm_8) T8 → wd D A s.heap H locs [(a0, .inr (2, [.ref a1, .int x2])), (a1, .inl (cI, 36, .inl sm_8)), (b0, .inr (3, [.ref a2, .int olt])), (a2, .inl (cI, 36, .inl odl))] → lv_has ls 8 [(0, .ref a0), (1, .ref b0), (3, .int x3), (4, .int x4_8)] → W p l e rm_X2_measure s m args below meth c H locs 0 0 Q (F0 m 8 ls []) := by
    intro n
    induction n with
    | zero =>
      intro x4_8 sm_8 H locs ls h
      rw [f_X2_measure_L8] at h
      exact (sat_none h).elim
    | succ n ih =>
      intro x4_8 sm_8 H locs ls h w hl
      rw [f_X2_measure_L8] at h
      refine lv_iload hx hb dX2_measure_8 (lv_at hl 3 rfl) ?_
      refine lv_aload_n hx hb dX2_measure_10 rfl (lv_at hl 0 rfl) ?_
      refine gf_X2_15 hx hb hown hk w.1 0 rfl rfl dX2_measure_11 ?_
      refine lv_icmp_ge (tgt := 63) hx hb dX2_measure_14 (by decide) (fun c14 => ?_) (fun c14 => ?_)
      · have h := sat_t c14 h
        exact E8 sm_8 _ _ _ (sat_some h) w (lv_sub hl [0] rfl)
      · have h := sat_f c14 h
        refine lv_iconst (v := 0) hx hb dX2_measure_17 (by decide) ?_
        refine lv_istore (lv' := [(5, .int 0), (0, .ref a0), (1, .ref b0), (3, .int x3), (4, .int x4_8)]) hx hb dX2_measure_18 hl (by decide) rfl (fun ls hl => ?_)
        obtain ⟨T20, hT20, h⟩ := sat_reg h
        have E20 : ∀ (sm_3 : ar) (H : Heap) (locs : List Loc) (ls : Array Slot), T20 sm_3 → wd D A s.heap H locs [(a0, .inr (2, [.ref a1, .int x2])), (a1, .inl (cI, 36, .inl sm_3)), (b0, .inr (3, [.ref a2, .int olt])), (a2, .inl (cI, 36, .inl odl))] → lv_has ls 8 [(0, .ref a0), (1, .ref b0), (3, .int x3), (4, .int x4_8)] → W p l e rm_X2_measure s m args below meth c H locs 0 0 Q (F0 m 57 ls []) := by
          intro sm_3 H locs ls h w hl
          have h := hT20 _ h
          refine lv_iinc (v := x4_8 + 1) (lv' := [(4, .int (x4_8 + 1)), (0, .ref a0), (1, .ref b0), (3, .int x3)]) hx hb dX2_measure_57 hl (k := 3) rfl (congrArg (fun z => x4_8 + z) (by decide)) (by decide) rfl (fun ls hl => ?_)
          refine lv_goto (tgt := 8) hx hb dX2_measure_60 (by decide) ?_
          exact ih (x4_8 + 1) sm_3 _ _ _ h w (lv_sub hl [1, 2, 3, 0] rfl)
        have L20 : ∀ (n : Nat) (x5_20 : Int32) (sm_20 : ar) (H : Heap) (locs : List Loc) (ls : Array Slot), sat (f_X2_measure_L20 odl x2 x3 x4_8 n x5_20 sm_20) T20 → wd D A s.heap H locs [(a0, .inr (2, [.ref a1, .int x2])), (a1, .inl (cI, 36, .inl sm_20)), (b0, .inr (3, [.ref a2, .int olt])), (a2, .inl (cI, 36, .inl odl))] → lv_has ls 8 [(0, .ref a0), (1, .ref b0), (3, .int x3), (4, .int x4_8), (5, .int x5_20)] → W p l e rm_X2_measure s m args below meth c H locs 0 0 Q (F0 m 20 ls []) := by
          intro n
          induction n with
          | zero =>
            intro x5_20 sm_20 H locs ls h
            rw [f_X2_measure_L20] at h
            exact (sat_none h).elim
          | succ n ih =>
            intro x5_20 sm_20 H locs ls h w hl
            rw [f_X2_measure_L20] at h
            refine lv_iload hx hb dX2_measure_20 (lv_at hl 4 rfl) ?_
            refine lv_aload_n hx hb dX2_measure_22 rfl (lv_at hl 0 rfl) ?_
            refine gf_X2_15 hx hb hown hk w.1 0 rfl rfl dX2_measure_23 ?_
            refine lv_icmp_ge (tgt := 57) hx hb dX2_measure_26 (by decide) (fun c26 => ?_) (fun c26 => ?_)
            · have h := sat_t c26 h
              exact E20 sm_20 _ _ _ (sat_some h) w (lv_sub hl [0, 1, 2, 3] rfl)
            · have h := sat_f c26 h
              refine lv_aload_n hx hb dX2_measure_29 rfl (lv_at hl 0 rfl) ?_
              refine gf_X2_9 hx hb hown hk w.1 0 rfl rfl dX2_measure_30 ?_
              refine lv_iload hx hb dX2_measure_33 (lv_at hl 3 rfl) ?_
              refine lv_iload hx hb dX2_measure_35 (lv_at hl 4 rfl) ?_
              obtain ⟨r_1, e_1, h⟩ := sat_bind h
              refine cRN (rest := [.ref a1]) hx hb hml hown hk (k_X11_pairCell l D cI cZ cK x4_8 x5_20 r_1 e_1) (me_X11_pairCell hk.2.1) (ms_X11_pairCell hk.2.1) (hk.2.2.1 (RX2, 19, yX11_pairCell) (List.mem_of_getElem? (i := 8) rfl)) (w.1.sub [] rfl) hl.1 rfl rfl (Nat.le_of_ble_eq_true rfl) ⟨rfl, rfl, Nat.le_of_ble_eq_true rfl, Nat.le_of_ble_eq_true rfl, Nat.zero_le _, Nat.zero_le _⟩ dX2_measure_37 ?_
              refine lv_aload_n hx hb dX2_measure_40 rfl (lv_at hl 0 rfl) ?_
              refine lv_aload_n hx hb dX2_measure_41 rfl (lv_at hl 1 rfl) ?_
              refine lv_iload hx hb dX2_measure_42 (lv_at hl 3 rfl) ?_
              refine lv_iload hx hb dX2_measure_44 (lv_at hl 4 rfl) ?_
              refine lv_iload_n hx hb dX2_measure_46 rfl (lv_at hl 2 rfl) ?_
              obtain ⟨r_2, e_2, h⟩ := sat_bind h
              refine cRV (rest := [.int r_1, .ref a1]) hx hb hml hown hk (k_X2_stepFrom l D cI cZ cK a0 a1 b0 a2 x2 olt odl x4_8 x5_20 x3 r_2 e_2) (me_X2_stepFrom hk.2.1) (mi_X2_stepFrom hk.2.1) (ml_X2_23 hk.2.1) (w.1.sub [0, 2, 3] rfl) 0 rfl rfl rfl hl.1 rfl rfl (Nat.le_of_ble_eq_true rfl) ⟨rfl, rfl, Nat.le_of_ble_eq_true rfl, Nat.le_of_ble_eq_true rfl, Nat.zero_le _, Nat.zero_le _⟩ dX2_measure_47 ?_
              obtain ⟨hi, h⟩ := sat_in h
              refine ra_ist (ws' := [(a0, .inr (2, [.ref a1, .int x2])), (a1, .inl (cI, 36, .inl (upd sm_20 r_1.toNatClampNeg r_2))), (b0, .inr (3, [.ref a2, .int olt])), (a2, .inl (cI, 36, .inl odl))]) hx hb hk w 1 rfl hi rfl dX2_measure_50 (fun H locs w => ?_)
              refine lv_iinc (v := x5_20 + 1) (lv' := [(5, .int (x5_20 + 1)), (0, .ref a0), (1, .ref b0), (3, .int x3), (4, .int x4_8)]) hx hb dX2_measure_51 hl (k := 4) rfl (congrArg (fun z => x5_20 + z) (by decide)) (by decide) rfl (fun ls hl => ?_)
              refine lv_goto (tgt := 20) hx hb dX2_measure_54 (by decide) ?_
              exact ih (x5_20 + 1) (upd sm_20 r_1.toNatClampNeg r_2) _ _ _ h w (lv_sub hl [1, 2, 3, 4, 0] rfl)
        exact L20 N 0 sm_8 _ _ _ h w (lv_sub hl [1, 2, 3, 4, 0] rfl)
  exact L8 N 0 sm _ _ _ h w (lv_sub hl [1, 2, 4, 0] rfl)
def f_X2_between (sm : ar) (x1 : Int32) (x2 : Int32) : Option (Int32) := Option.bind (f_X11_pairCell x1 x2) fun r_1 => ck (inb r_1 36) (if (sm r_1.toNatClampNeg) < 1000000 then some (sm r_1.toNatClampNeg) else some (-9))
abbrev rm_X2_between : Room := { frames := 1, cells := 0, slots := 0, locals := 21 }
set_option maxRecDepth 100000 in
set_option maxHeartbeats 4000000 in
theorem k_X2_between (l : Launch) (D : va_G) (cI cZ cK : ClassId) (a0 a1 : Nat) (sn : Int32) (sm : ar) (x1 : Int32) (x2 : Int32) (R : Int32) (h : f_X2_between sm x1 x2 = some R) : Rd l D cI cZ cK yX2_between cX2_between 4 (some .int) rm_X2_between [.ref a0, .int x1, .int x2] [(a0, .inr (2, [.ref a1, .int sn])), (a1, .inl (cI, 36, .inl sm))] R := by
  refine rd_of (by decide) (vp_nar_int _) (Nat.le_of_ble_eq_true rfl) ?_
  intro p e s m args below meth c Q ls hx hb hml hown hk hP hret hl
  have hl : lv_has ls 4 [(0, .ref a0), (1, .int x1), (2, .int x2)] := hl
  obtain ⟨C0, hC0, h⟩ := sat_top h
  unfold f_X2_between at h
  refine lv_aload_n hx hb dX2_between_0 rfl (lv_at hl 0 rfl) ?_
  refine gf_X2_9 hx hb hown hk hP 0 rfl rfl dX2_between_1 ?_
  refine lv_iload_n hx hb dX2_between_4 rfl (lv_at hl 1 rfl) ?_
  refine lv_iload_n hx hb dX2_between_5 rfl (lv_at hl 2 rfl) ?_
  obtain ⟨r_1, e_1, h⟩ := sat_bind h
  refine cRN (rest := [.ref a1]) hx hb hml hown hk (k_X11_pairCell l D cI cZ cK x1 x2 r_1 e_1) (me_X11_pairCell hk.2.1) (ms_X11_pairCell hk.2.1) (hk.2.2.1 (RX2, 19, yX11_pairCell) (List.mem_of_getElem? (i := 8) rfl)) (hP.sub [] rfl) hl.1 rfl rfl (Nat.le_of_ble_eq_true rfl) ⟨rfl, rfl, Nat.le_of_ble_eq_true rfl, Nat.le_of_ble_eq_true rfl, Nat.zero_le _, Nat.zero_le _⟩ dX2_between_6 ?_
  obtain ⟨hi, h⟩ := sat_in h
  refine va_iald hx hb hk.1 hP 1 0 rfl rfl hi dX2_between_9 ?_
  refine lv_istore_n (lv' := [(3, .int (sm r_1.toNatClampNeg)), (0, .ref a0), (1, .int x1), (2, .int x2)]) hx hb dX2_between_10 rfl hl (by decide) rfl (fun ls hl => ?_)
  refine lv_iload_n hx hb dX2_between_11 rfl (lv_at hl 0 rfl) ?_
  refine lv_ldc (v := 1000000) hx hb hown (co_X2_40 hk.2.1 args) dX2_between_12 ?_
  refine lv_icmp_lt (tgt := 22) hx hb dX2_between_14 (by decide) (fun c14 => ?_) (fun c14 => ?_)
  · have h := sat_t c14 h
    refine lv_iload_n hx hb dX2_between_22 rfl (lv_at hl 0 rfl) ?_
    have hR := hC0 _ (sat_some h)
    subst hR
    exact hret _ _ dX2_between_23
  · have h := sat_f c14 h
    refine lv_bipush (v := (-9)) hx hb dX2_between_17 (by decide) ?_
    refine lv_goto (tgt := 23) hx hb dX2_between_19 (by decide) ?_
    have hR := hC0 _ (sat_some h)
    subst hR
    exact hret _ _ dX2_between_23
def f_X2_sumOfAll_L14 (sm : ar) (sn : Int32) (x2_4 : Int32) : Nat → Int32 → Int32 → Option (Int32)
  | 0, _, _ => none
  | n + 1, x1_14, x3_14 => if sn ≤ x3_14 then some x1_14 else Option.bind (f_X2_between sm x2_4 x3_14) fun r_1 => if r_1 = (-9) then f_X2_sumOfAll_L14 sm sn x2_4 n (x1_14 + 100) (x3_14 + 1) else f_X2_sumOfAll_L14 sm sn x2_4 n (x1_14 + r_1) (x3_14 + 1)
def f_X2_sumOfAll_L4 (sm : ar) (sn : Int32) (N : Nat) : Nat → Int32 → Int32 → Option (Int32)
  | 0, _, _ => none
  | n + 1, x1_4, x2_4 => if sn ≤ x2_4 then some x1_4 else Option.bind (f_X2_sumOfAll_L14 sm sn x2_4 N x1_4 0) fun s14 => f_X2_sumOfAll_L4 sm sn N n s14 (x2_4 + 1)
def f_X2_sumOfAll (N : Nat) (sm : ar) (sn : Int32) : Option (Int32) := Option.bind (f_X2_sumOfAll_L4 sm sn N N 0 0) fun s4 => some s4
abbrev rm_X2_sumOfAll : Room := { frames := 2, cells := 0, slots := 0, locals := 44 }
set_option maxRecDepth 100000 in
set_option maxHeartbeats 4000000 in
theorem k_X2_sumOfAll (l : Launch) (D : va_G) (cI cZ cK : ClassId) (N : Nat) (a0 a1 : Nat) (sn : Int32) (sm : ar) (R : Int32) (h : f_X2_sumOfAll N sm sn = some R) : Rd l D cI cZ cK yX2_sumOfAll cX2_sumOfAll 5 (some .int) rm_X2_sumOfAll [.ref a0] [(a0, .inr (2, [.ref a1, .int sn])), (a1, .inl (cI, 36, .inl sm))] R := by
  refine rd_of (by decide) (vp_nar_int _) (Nat.le_of_ble_eq_true rfl) ?_
  intro p e s m args below meth c Q ls hx hb hml hown hk hP hret hl
  have hl : lv_has ls 5 [(0, .ref a0)] := hl
  obtain ⟨C0, hC0, h⟩ := sat_top h
  unfold f_X2_sumOfAll at h
  refine lv_iconst (v := 0) hx hb dX2_sumOfAll_0 (by decide) ?_
  refine lv_istore_n (lv' := [(1, .int 0), (0, .ref a0)]) hx hb dX2_sumOfAll_1 rfl hl (by decide) rfl (fun ls hl => ?_)
  refine lv_iconst (v := 0) hx hb dX2_sumOfAll_2 (by decide) ?_
  refine lv_istore_n (lv' := [(2, .int 0), (1, .int 0), (0, .ref a0)]) hx hb dX2_sumOfAll_3 rfl hl (by decide) rfl (fun ls hl => ?_)
  obtain ⟨T4, hT4, h⟩ := sat_reg h
  have E4 : ∀ (e1_3 : Int32) (ls : Array Slot), T4 e1_3 → lv_has ls 5 [(1, .int e1_3)] → W p l e rm_X2_sumOfAll s m args below meth c s.heap [] 0 0 Q (F0 m 59 ls []) := by
    intro e1_3 ls h hl
    have h := hT4 _ h
    refine lv_iload_n hx hb dX2_sumOfAll_59 rfl (lv_at hl 0 rfl) ?_
    have hR := hC0 _ (sat_some h)
    subst hR
    exact hret _ _ dX2_sumOfAll_60
  have L4 : ∀ (n : Nat) (x1_4 : Int32) (x2_4 : Int32) (ls : Array Slot), sat (f_X2_sumOfAll_L4 sm sn N n x1_4 x2_4) T4 → lv_has ls 5 [(0, .ref a0), (1, .int x1_4), (2, .int x2_4)] → W p l e rm_X2_sumOfAll s m args below meth c s.heap [] 0 0 Q (F0 m 4 ls []) := by
    intro n
    induction n with
    | zero =>
      intro x1_4 x2_4 ls h
      rw [f_X2_sumOfAll_L4] at h
      exact (sat_none h).elim
    | succ n ih =>
      intro x1_4 x2_4 ls h hl
      rw [f_X2_sumOfAll_L4] at h
      refine lv_iload_n hx hb dX2_sumOfAll_4 rfl (lv_at hl 2 rfl) ?_
      refine lv_aload_n hx hb dX2_sumOfAll_5 rfl (lv_at hl 0 rfl) ?_
      refine gf_X2_15 hx hb hown hk hP 0 rfl rfl dX2_sumOfAll_6 ?_
      refine lv_icmp_ge (tgt := 59) hx hb dX2_sumOfAll_9 (by decide) (fun c9 => ?_) (fun c9 => ?_)
      · have h := sat_t c9 h
        exact E4 x1_4 _ (sat_some h) (lv_sub hl [1] rfl)
      · have h := sat_f c9 h
        refine lv_iconst (v := 0) hx hb dX2_sumOfAll_12 (by decide) ?_
        refine lv_istore_n (lv' := [(3, .int 0), (0, .ref a0), (1, .int x1_4), (2, .int x2_4)]) hx hb dX2_sumOfAll_13 rfl hl (by decide) rfl (fun ls hl => ?_)
        obtain ⟨T14, hT14, h⟩ := sat_reg h
        have E14 : ∀ (e1_2 : Int32) (ls : Array Slot), T14 e1_2 → lv_has ls 5 [(0, .ref a0), (1, .int e1_2), (2, .int x2_4)] → W p l e rm_X2_sumOfAll s m args below meth c s.heap [] 0 0 Q (F0 m 53 ls []) := by
          intro e1_2 ls h hl
          have h := hT14 _ h
          refine lv_iinc (v := x2_4 + 1) (lv' := [(2, .int (x2_4 + 1)), (0, .ref a0), (1, .int e1_2)]) hx hb dX2_sumOfAll_53 hl (k := 2) rfl (congrArg (fun z => x2_4 + z) (by decide)) (by decide) rfl (fun ls hl => ?_)
          refine lv_goto (tgt := 4) hx hb dX2_sumOfAll_56 (by decide) ?_
          exact ih e1_2 (x2_4 + 1) _ h (lv_sub hl [1, 2, 0] rfl)
        have L14 : ∀ (n : Nat) (x1_14 : Int32) (x3_14 : Int32) (ls : Array Slot), sat (f_X2_sumOfAll_L14 sm sn x2_4 n x1_14 x3_14) T14 → lv_has ls 5 [(0, .ref a0), (1, .int x1_14), (2, .int x2_4), (3, .int x3_14)] → W p l e rm_X2_sumOfAll s m args below meth c s.heap [] 0 0 Q (F0 m 14 ls []) := by
          intro n
          induction n with
          | zero =>
            intro x1_14 x3_14 ls h
            rw [f_X2_sumOfAll_L14] at h
            exact (sat_none h).elim
          | succ n ih =>
            intro x1_14 x3_14 ls h hl
            rw [f_X2_sumOfAll_L14] at h
            refine lv_iload_n hx hb dX2_sumOfAll_14 rfl (lv_at hl 3 rfl) ?_
            refine lv_aload_n hx hb dX2_sumOfAll_15 rfl (lv_at hl 0 rfl) ?_
            refine gf_X2_15 hx hb hown hk hP 0 rfl rfl dX2_sumOfAll_16 ?_
            refine lv_icmp_ge (tgt := 53) hx hb dX2_sumOfAll_19 (by decide) (fun c19 => ?_) (fun c19 => ?_)
            · have h := sat_t c19 h
              exact E14 x1_14 _ (sat_some h) (lv_sub hl [0, 1, 2] rfl)
            · have h := sat_f c19 h
              refine lv_aload_n hx hb dX2_sumOfAll_22 rfl (lv_at hl 0 rfl) ?_
              refine lv_iload_n hx hb dX2_sumOfAll_23 rfl (lv_at hl 2 rfl) ?_
              refine lv_iload_n hx hb dX2_sumOfAll_24 rfl (lv_at hl 3 rfl) ?_
              obtain ⟨r_1, e_1, h⟩ := sat_bind h
              refine cRV (rest := []) hx hb hml hown hk (k_X2_between l D cI cZ cK a0 a1 sn sm x2_4 x3_14 r_1 e_1) (me_X2_between hk.2.1) (mi_X2_between hk.2.1) (ml_X2_41 hk.2.1) (hP.sub [0, 1] rfl) 0 rfl rfl rfl hl.1 rfl rfl (Nat.le_of_ble_eq_true rfl) ⟨rfl, rfl, Nat.le_of_ble_eq_true rfl, Nat.le_of_ble_eq_true rfl, Nat.zero_le _, Nat.zero_le _⟩ dX2_sumOfAll_25 ?_
              refine lv_istore (lv' := [(4, .int r_1), (0, .ref a0), (1, .int x1_14), (2, .int x2_4), (3, .int x3_14)]) hx hb dX2_sumOfAll_28 hl (by decide) rfl (fun ls hl => ?_)
              refine lv_iload_n hx hb dX2_sumOfAll_30 rfl (lv_at hl 2 rfl) ?_
              refine lv_iload hx hb dX2_sumOfAll_31 (lv_at hl 0 rfl) ?_
              refine lv_bipush (v := (-9)) hx hb dX2_sumOfAll_33 (by decide) ?_
              refine lv_icmp_ne (tgt := 43) hx hb dX2_sumOfAll_35 (by decide) (fun c35 => ?_) (fun c35 => ?_)
              · have h := sat_f c35 h
                refine lv_iload hx hb dX2_sumOfAll_43 (lv_at hl 0 rfl) ?_
                refine lv_iadd hx hb dX2_sumOfAll_45 ?_
                refine lv_istore_n (lv' := [(1, .int (x1_14 + r_1)), (4, .int r_1), (0, .ref a0), (2, .int x2_4), (3, .int x3_14)]) hx hb dX2_sumOfAll_46 rfl hl (by decide) rfl (fun ls hl => ?_)
                refine lv_iinc (v := x3_14 + 1) (lv' := [(3, .int (x3_14 + 1)), (1, .int (x1_14 + r_1)), (4, .int r_1), (0, .ref a0), (2, .int x2_4)]) hx hb dX2_sumOfAll_47 hl (k := 4) rfl (congrArg (fun z => x3_14 + z) (by decide)) (by decide) rfl (fun ls hl => ?_)
                refine lv_goto (tgt := 14) hx hb dX2_sumOfAll_50 (by decide) ?_
                exact ih (x1_14 + r_1) (x3_14 + 1) _ h (lv_sub hl [3, 1, 4, 0] rfl)
              · have h := sat_t c35 h
                refine lv_bipush (v := 100) hx hb dX2_sumOfAll_38 (by decide) ?_
                refine lv_goto (tgt := 45) hx hb dX2_sumOfAll_40 (by decide) ?_
                refine lv_iadd hx hb dX2_sumOfAll_45 ?_
                refine lv_istore_n (lv' := [(1, .int (x1_14 + 100)), (4, .int r_1), (0, .ref a0), (2, .int x2_4), (3, .int x3_14)]) hx hb dX2_sumOfAll_46 rfl hl (by decide) rfl (fun ls hl => ?_)
                refine lv_iinc (v := x3_14 + 1) (lv' := [(3, .int (x3_14 + 1)), (1, .int (x1_14 + 100)), (4, .int r_1), (0, .ref a0), (2, .int x2_4)]) hx hb dX2_sumOfAll_47 hl (k := 4) rfl (congrArg (fun z => x3_14 + z) (by decide)) (by decide) rfl (fun ls hl => ?_)
                refine lv_goto (tgt := 14) hx hb dX2_sumOfAll_50 (by decide) ?_
                exact ih (x1_14 + 100) (x3_14 + 1) _ h (lv_sub hl [3, 1, 4, 0] rfl)
        exact L14 N x1_4 0 _ h (lv_sub hl [1, 2, 3, 0] rfl)
  exact L4 N 0 0 _ h (lv_sub hl [2, 1, 0] rfl)
def f_X8_append (sf : ar) (sg : ar) (sw : ar) (sz : Int32) (x1 : Int32) (x2 : Int32) (x3 : Int32) : Option (Bool × Int32 × ar × ar × ar) := if sz < 6 then ck (inb sz 6) (ck (inb sz 6) (ck (inb sz 6) (some (true, sz + 1, upd sf sz.toNatClampNeg x1, upd sg sz.toNatClampNeg x2, upd sw sz.toNatClampNeg x3)))) else some (false, sz, sf, sg, sw)
abbrev rm_X8_append : Room := { frames := 0, cells := 0, slots := 0, locals := 0 }
set_option maxRecDepth 100000 in
set_option maxHeartbeats 4000000 in
theorem k_X8_append (l : Launch) (D : va_G) (cI cZ cK : ClassId) (a0 a1 a2 a3 : Nat) (sz : Int32) (sf : ar) (sg : ar) (sw : ar) (x1 : Int32) (x2 : Int32) (x3 : Int32) (R : Bool × Int32 × ar × ar × ar) (h : f_X8_append sf sg sw sz x1 x2 x3 = some R) : Mu l D cI cZ cK yX8_append cX8_append 4 (some .boolean) rm_X8_append [.ref a0, .int x1, .int x2, .int x3] [(a0, .inr (8, [.ref a1, .ref a2, .ref a3, .int sz])), (a1, .inl (cI, 6, .inl sf)), (a2, .inl (cI, 6, .inl sg)), (a3, .inl (cI, 6, .inl sw))] (some (.int (b2i R.1))) [(a0, .inr (8, [.ref a1, .ref a2, .ref a3, .int R.2.1])), (a1, .inl (cI, 6, .inl R.2.2.1)), (a2, .inl (cI, 6, .inl R.2.2.2.1)), (a3, .inl (cI, 6, .inl R.2.2.2.2))] := by
  refine mi_of (by decide) (nar_b _) (Nat.le_of_ble_eq_true rfl) ?_
  intro p e s m args below meth c Q A ls hx hb hml hown hk hA w hret hl
  have hl : lv_has ls 4 [(0, .ref a0), (1, .int x1), (2, .int x2), (3, .int x3)] := hl
  obtain ⟨C0, hC0, h⟩ := sat_top h
  unfold f_X8_append at h
  refine lv_aload_n hx hb dX8_append_0 rfl (lv_at hl 0 rfl) ?_
  refine gf_X8_21 hx hb hown hk w.1 0 rfl rfl dX8_append_1 ?_
  refine lv_bipush (v := 6) hx hb dX8_append_4 (by decide) ?_
  refine lv_icmp_lt (tgt := 11) hx hb dX8_append_6 (by decide) (fun c6 => ?_) (fun c6 => ?_)
  · have h := sat_t c6 h
    refine lv_aload_n hx hb dX8_append_11 rfl (lv_at hl 0 rfl) ?_
    refine gf_X8_9 hx hb hown hk w.1 0 rfl rfl dX8_append_12 ?_
    refine lv_aload_n hx hb dX8_append_15 rfl (lv_at hl 0 rfl) ?_
    refine gf_X8_21 hx hb hown hk w.1 0 rfl rfl dX8_append_16 ?_
    refine lv_iload_n hx hb dX8_append_19 rfl (lv_at hl 1 rfl) ?_
    obtain ⟨hi, h⟩ := sat_in h
    refine ra_ist (ws' := [(a0, .inr (8, [.ref a1, .ref a2, .ref a3, .int sz])), (a1, .inl (cI, 6, .inl (upd sf sz.toNatClampNeg x1))), (a2, .inl (cI, 6, .inl sg)), (a3, .inl (cI, 6, .inl sw))]) hx hb hk w 1 rfl hi rfl dX8_append_20 (fun H locs w => ?_)
    refine lv_aload_n hx hb dX8_append_21 rfl (lv_at hl 0 rfl) ?_
    refine gf_X8_15 hx hb hown hk w.1 0 rfl rfl dX8_append_22 ?_
    refine lv_aload_n hx hb dX8_append_25 rfl (lv_at hl 0 rfl) ?_
    refine gf_X8_21 hx hb hown hk w.1 0 rfl rfl dX8_append_26 ?_
    refine lv_iload_n hx hb dX8_append_29 rfl (lv_at hl 2 rfl) ?_
    obtain ⟨hi, h⟩ := sat_in h
    refine ra_ist (ws' := [(a0, .inr (8, [.ref a1, .ref a2, .ref a3, .int sz])), (a1, .inl (cI, 6, .inl (upd sf sz.toNatClampNeg x1))), (a2, .inl (cI, 6, .inl (upd sg sz.toNatClampNeg x2))), (a3, .inl (cI, 6, .inl sw))]) hx hb hk w 2 rfl hi rfl dX8_append_30 (fun H locs w => ?_)
    refine lv_aload_n hx hb dX8_append_31 rfl (lv_at hl 0 rfl) ?_
    refine gf_X8_18 hx hb hown hk w.1 0 rfl rfl dX8_append_32 ?_
    refine lv_aload_n hx hb dX8_append_35 rfl (lv_at hl 0 rfl) ?_
    refine gf_X8_21 hx hb hown hk w.1 0 rfl rfl dX8_append_36 ?_
    refine lv_iload_n hx hb dX8_append_39 rfl (lv_at hl 3 rfl) ?_
    obtain ⟨hi, h⟩ := sat_in h
    refine ra_ist (ws' := [(a0, .inr (8, [.ref a1, .ref a2, .ref a3, .int sz])), (a1, .inl (cI, 6, .inl (upd sf sz.toNatClampNeg x1))), (a2, .inl (cI, 6, .inl (upd sg sz.toNatClampNeg x2))), (a3, .inl (cI, 6, .inl (upd sw sz.toNatClampNeg x3)))]) hx hb hk w 3 rfl hi rfl dX8_append_40 (fun H locs w => ?_)
    refine lv_aload_n hx hb dX8_append_41 rfl (lv_at hl 0 rfl) ?_
    refine lv_dup hx hb dX8_append_42 rfl ?_
    refine gf_X8_21 hx hb hown hk w.1 0 rfl rfl dX8_append_43 ?_
    refine lv_iconst (v := 1) hx hb dX8_append_46 (by decide) ?_
    refine lv_iadd hx hb dX8_append_47 ?_
    refine pf_X8_21 (ws' := [(a0, .inr (8, [.ref a1, .ref a2, .ref a3, .int (sz + 1)])), (a1, .inl (cI, 6, .inl (upd sf sz.toNatClampNeg x1))), (a2, .inl (cI, 6, .inl (upd sg sz.toNatClampNeg x2))), (a3, .inl (cI, 6, .inl (upd sw sz.toNatClampNeg x3)))]) hx hb hown hk w 0 rfl (Nat.le_of_ble_eq_true rfl) rfl dX8_append_48 (fun H locs w => ?_)
    refine lv_iconst (v := 1) hx hb dX8_append_51 (by decide) ?_
    have hR := hC0 _ (sat_some h)
    subst hR
    exact hret _ _ _ _ w dX8_append_52
  · have h := sat_f c6 h
    refine lv_iconst (v := 0) hx hb dX8_append_9 (by decide) ?_
    have hR := hC0 _ (sat_some h)
    subst hR
    exact hret _ _ _ _ w dX8_append_10
def f_X8_agree_L2 (sf : ar) (sg : ar) (sw : ar) (sz : Int32) (osm : ar) : Nat → Int32 → Option ((Bool) ⊕ (Unit))
  | 0, _ => none
  | n + 1, x2_2 => if sz ≤ x2_2 then some (.inr ()) else ck (inb x2_2 6) (ck (inb x2_2 6) (Option.bind (f_X2_between osm (sf x2_2.toNatClampNeg) (sg x2_2.toNatClampNeg)) fun r_1 => Option.bind (α := Int32) (if r_1 = (-9) then some 0 else some r_1) fun j30 => ck (inb x2_2 6) (if j30 = (sw x2_2.toNatClampNeg) then f_X8_agree_L2 sf sg sw sz osm n (x2_2 + 1) else some (.inl false))))
def f_X8_agree (N : Nat) (sf : ar) (sg : ar) (sw : ar) (sz : Int32) (osm : ar) : Option (Bool) := lb (f_X8_agree_L2 sf sg sw sz osm N 0) fun s2 => some true
abbrev rm_X8_agree : Room := { frames := 2, cells := 0, slots := 0, locals := 44 }
set_option maxRecDepth 100000 in
set_option maxHeartbeats 4000000 in
theorem k_X8_agree (l : Launch) (D : va_G) (cI cZ cK : ClassId) (N : Nat) (a0 a1 a2 a3 b0 a4 : Nat) (sz : Int32) (sf : ar) (sg : ar) (sw : ar) (osn : Int32) (osm : ar) (R : Bool) (h : f_X8_agree N sf sg sw sz osm = some R) : Rd l D cI cZ cK yX8_agree cX8_agree 4 (some .boolean) rm_X8_agree [.ref a0, .ref b0] [(a0, .inr (8, [.ref a1, .ref a2, .ref a3, .int sz])), (a1, .inl (cI, 6, .inl sf)), (a2, .inl (cI, 6, .inl sg)), (a3, .inl (cI, 6, .inl sw)), (b0, .inr (2, [.ref a4, .int osn])), (a4, .inl (cI, 36, .inl osm))] (b2i R) := by
  refine rd_of (by decide) (nar_b _) (Nat.le_of_ble_eq_true rfl) ?_
  intro p e s m args below meth c Q ls hx hb hml hown hk hP hret hl
  have hl : lv_has ls 4 [(0, .ref a0), (1, .ref b0)] := hl
  obtain ⟨C0, hC0, h⟩ := sat_top h
  unfold f_X8_agree at h
  refine lv_iconst (v := 0) hx hb dX8_agree_0 (by decide) ?_
  refine lv_istore_n (lv' := [(2, .int 0), (0, .ref a0), (1, .ref b0)]) hx hb dX8_agree_1 rfl hl (by decide) rfl (fun ls hl => ?_)
  obtain ⟨T2, hr2, hT2, h⟩ := sat_lbr h
  have E2 : ∀  (ls : Array Slot), T2 (.inr ()) → lv_has ls 4 [] → W p l e rm_X8_agree s m args below meth c s.heap [] 0 0 Q (F0 m 55 ls []) := by
    intro  ls h hl
    have h := hT2 _ h
    refine lv_iconst (v := 1) hx hb dX8_agree_55 (by decide) ?_
    have hR := hC0 _ (sat_some h)
    subst hR
    exact hret _ _ dX8_agree_56
  have L2 : ∀ (n : Nat) (x2_2 : Int32) (ls : Array Slot), sat (f_X8_agree_L2 sf sg sw sz osm n x2_2) T2 → lv_has ls 4 [(0, .ref a0), (1, .ref b0), (2, .int x2_2)] → W p l e rm_X8_agree s m args below meth c s.heap [] 0 0 Q (F0 m 2 ls []) := by
    intro n
    induction n with
    | zero =>
      intro x2_2 ls h
      rw [f_X8_agree_L2] at h
      exact (sat_none h).elim
    | succ n ih =>
      intro x2_2 ls h hl
      rw [f_X8_agree_L2] at h
      refine lv_iload_n hx hb dX8_agree_2 rfl (lv_at hl 2 rfl) ?_
      refine lv_aload_n hx hb dX8_agree_3 rfl (lv_at hl 0 rfl) ?_
      refine gf_X8_21 hx hb hown hk hP 0 rfl rfl dX8_agree_4 ?_
      refine lv_icmp_ge (tgt := 55) hx hb dX8_agree_7 (by decide) (fun c7 => ?_) (fun c7 => ?_)
      · have h := sat_t c7 h
        exact E2  _ (sat_some h) (lv_sub hl [] rfl)
      · have h := sat_f c7 h
        refine lv_aload_n hx hb dX8_agree_10 rfl (lv_at hl 1 rfl) ?_
        refine lv_aload_n hx hb dX8_agree_11 rfl (lv_at hl 0 rfl) ?_
        refine gf_X8_9 hx hb hown hk hP 0 rfl rfl dX8_agree_12 ?_
        refine lv_iload_n hx hb dX8_agree_15 rfl (lv_at hl 2 rfl) ?_
        obtain ⟨hi, h⟩ := sat_in h
        refine va_iald hx hb hk.1 hP 1 0 rfl rfl hi dX8_agree_16 ?_
        refine lv_aload_n hx hb dX8_agree_17 rfl (lv_at hl 0 rfl) ?_
        refine gf_X8_15 hx hb hown hk hP 0 rfl rfl dX8_agree_18 ?_
        refine lv_iload_n hx hb dX8_agree_21 rfl (lv_at hl 2 rfl) ?_
        obtain ⟨hi, h⟩ := sat_in h
        refine va_iald hx hb hk.1 hP 2 0 rfl rfl hi dX8_agree_22 ?_
        obtain ⟨r_1, e_1, h⟩ := sat_bind h
        refine cRV (rest := []) hx hb hml hown hk (k_X2_between l D cI cZ cK b0 a4 osn osm (sf x2_2.toNatClampNeg) (sg x2_2.toNatClampNeg) r_1 e_1) (me_X2_between hk.2.1) (mi_X2_between hk.2.1) (ml_X8_25 hk.2.1) (hP.sub [4, 5] rfl) 0 rfl rfl rfl hl.1 rfl rfl (Nat.le_of_ble_eq_true rfl) ⟨rfl, rfl, Nat.le_of_ble_eq_true rfl, Nat.le_of_ble_eq_true rfl, Nat.zero_le _, Nat.zero_le _⟩ dX8_agree_23 ?_
        refine lv_istore_n (lv' := [(3, .int r_1), (0, .ref a0), (1, .ref b0), (2, .int x2_2)]) hx hb dX8_agree_26 rfl hl (by decide) rfl (fun ls hl => ?_)
        refine lv_iload_n hx hb dX8_agree_27 rfl (lv_at hl 0 rfl) ?_
        refine lv_bipush (v := (-9)) hx hb dX8_agree_28 (by decide) ?_
        obtain ⟨T30, hT30, h⟩ := sat_reg h
        have J30 : ∀ (j_2 : Int32) (ls : Array Slot), T30 j_2 → lv_has ls 4 [(0, .ref a0), (1, .ref b0), (2, .int x2_2)] → W p l e rm_X8_agree s m args below meth c s.heap [] 0 0 Q (F0 m 38 ls [.int j_2]) := by
          intro j_2 ls h hl
          have h := hT30 _ h
          refine lv_aload_n hx hb dX8_agree_38 rfl (lv_at hl 0 rfl) ?_
          refine gf_X8_18 hx hb hown hk hP 0 rfl rfl dX8_agree_39 ?_
          refine lv_iload_n hx hb dX8_agree_42 rfl (lv_at hl 2 rfl) ?_
          obtain ⟨hi, h⟩ := sat_in h
          refine va_iald hx hb hk.1 hP 3 0 rfl rfl hi dX8_agree_43 ?_
          refine lv_icmp_eq (tgt := 49) hx hb dX8_agree_44 (by decide) (fun c44 => ?_) (fun c44 => ?_)
          · have h := sat_t c44 h
            refine lv_iinc (v := x2_2 + 1) (lv' := [(2, .int (x2_2 + 1)), (0, .ref a0), (1, .ref b0)]) hx hb dX8_agree_49 hl (k := 2) rfl (congrArg (fun z => x2_2 + z) (by decide)) (by decide) rfl (fun ls hl => ?_)
            refine lv_goto (tgt := 2) hx hb dX8_agree_52 (by decide) ?_
            exact ih (x2_2 + 1) _ h (lv_sub hl [1, 2, 0] rfl)
          · have h := sat_f c44 h
            refine lv_iconst (v := 0) hx hb dX8_agree_47 (by decide) ?_
            have hR := hC0 _ (hr2 _ (sat_some h))
            subst hR
            exact hret _ _ dX8_agree_48
        refine lv_icmp_ne (tgt := 37) hx hb dX8_agree_30 (by decide) (fun c30 => ?_) (fun c30 => ?_)
        · have h := sat_f c30 h
          refine lv_iload_n hx hb dX8_agree_37 rfl (lv_at hl 0 rfl) ?_
          exact J30 r_1 _ (sat_some h) (lv_sub hl [1, 2, 3] rfl)
        · have h := sat_t c30 h
          refine lv_iconst (v := 0) hx hb dX8_agree_33 (by decide) ?_
          refine lv_goto (tgt := 38) hx hb dX8_agree_34 (by decide) ?_
          exact J30 0 _ (sat_some h) (lv_sub hl [1, 2, 3] rfl)
  exact L2 N 0 _ h (lv_sub hl [1, 2, 0] rfl)
def f_X7_restart : Option (Int32 × Int32 × Int32 × Int32 × Int32 × Int32) := some (2, 0, 0, 99, 60, 0)
abbrev rm_X7_restart : Room := { frames := 0, cells := 0, slots := 0, locals := 0 }
set_option maxRecDepth 100000 in
set_option maxHeartbeats 4000000 in
theorem k_X7_restart (l : Launch) (D : va_G) (cI cZ cK : ClassId) (a0 : Nat) (rn : Int32) (re : Int32) (rh : Int32) (ra : Int32) (rl : Int32) (rf : Int32) (R : Int32 × Int32 × Int32 × Int32 × Int32 × Int32) (h : f_X7_restart = some R) : Mu l D cI cZ cK yX7_restart cX7_restart 1 none rm_X7_restart [.ref a0] [(a0, .inr (7, [.int rn, .int re, .int rh, .int ra, .int rl, .int rf]))] none [(a0, .inr (7, [.int R.1, .int R.2.1, .int R.2.2.1, .int R.2.2.2.1, .int R.2.2.2.2.1, .int R.2.2.2.2.2]))] := by
  refine mv_of (by decide) (Nat.le_of_ble_eq_true rfl) ?_
  intro p e s m args below meth c Q A ls hx hb hml hown hk hA w hret hl
  have hl : lv_has ls 1 [(0, .ref a0)] := hl
  obtain ⟨C0, hC0, h⟩ := sat_top h
  unfold f_X7_restart at h
  refine lv_aload_n hx hb dX7_restart_0 rfl (lv_at hl 0 rfl) ?_
  refine lv_iconst (v := 2) hx hb dX7_restart_1 (by decide) ?_
  refine pf_X7_12 (ws' := [(a0, .inr (7, [.int 2, .int re, .int rh, .int ra, .int rl, .int rf]))]) hx hb hown hk w 0 rfl (Nat.le_of_ble_eq_true rfl) rfl dX7_restart_2 (fun H locs w => ?_)
  refine lv_aload_n hx hb dX7_restart_5 rfl (lv_at hl 0 rfl) ?_
  refine lv_iconst (v := 0) hx hb dX7_restart_6 (by decide) ?_
  refine pf_X7_16 (ws' := [(a0, .inr (7, [.int 2, .int 0, .int rh, .int ra, .int rl, .int rf]))]) hx hb hown hk w 0 rfl (Nat.le_of_ble_eq_true rfl) rfl dX7_restart_7 (fun H locs w => ?_)
  refine lv_aload_n hx hb dX7_restart_10 rfl (lv_at hl 0 rfl) ?_
  refine lv_iconst (v := 0) hx hb dX7_restart_11 (by decide) ?_
  refine pf_X7_19 (ws' := [(a0, .inr (7, [.int 2, .int 0, .int 0, .int ra, .int rl, .int rf]))]) hx hb hown hk w 0 rfl (Nat.le_of_ble_eq_true rfl) rfl dX7_restart_12 (fun H locs w => ?_)
  refine lv_aload_n hx hb dX7_restart_15 rfl (lv_at hl 0 rfl) ?_
  refine lv_bipush (v := 99) hx hb dX7_restart_16 (by decide) ?_
  refine pf_X7_22 (ws' := [(a0, .inr (7, [.int 2, .int 0, .int 0, .int 99, .int rl, .int rf]))]) hx hb hown hk w 0 rfl (Nat.le_of_ble_eq_true rfl) rfl dX7_restart_18 (fun H locs w => ?_)
  refine lv_aload_n hx hb dX7_restart_21 rfl (lv_at hl 0 rfl) ?_
  refine lv_bipush (v := 60) hx hb dX7_restart_22 (by decide) ?_
  refine pf_X7_25 (ws' := [(a0, .inr (7, [.int 2, .int 0, .int 0, .int 99, .int 60, .int rf]))]) hx hb hown hk w 0 rfl (Nat.le_of_ble_eq_true rfl) rfl dX7_restart_24 (fun H locs w => ?_)
  refine lv_aload_n hx hb dX7_restart_27 rfl (lv_at hl 0 rfl) ?_
  refine lv_iconst (v := 0) hx hb dX7_restart_28 (by decide) ?_
  refine pf_X7_28 (ws' := [(a0, .inr (7, [.int 2, .int 0, .int 0, .int 99, .int 60, .int 0]))]) hx hb hown hk w 0 rfl (Nat.le_of_ble_eq_true rfl) rfl dX7_restart_29 (fun H locs w => ?_)
  have hR := hC0 _ (sat_some h)
  subst hR
  exact hret _ _ _ _ w dX7_restart_32
def f_X7_copyFrom (orn : Int32) (ore : Int32) (orh : Int32) (ora : Int32) (orl : Int32) (orf : Int32) : Option (Int32 × Int32 × Int32 × Int32 × Int32 × Int32) := some (orn, ore, orh, ora, orl, orf)
abbrev rm_X7_copyFrom : Room := { frames := 0, cells := 0, slots := 0, locals := 0 }
set_option maxRecDepth 100000 in
set_option maxHeartbeats 4000000 in
theorem k_X7_copyFrom (l : Launch) (D : va_G) (cI cZ cK : ClassId) (a0 b0 : Nat) (rn : Int32) (re : Int32) (rh : Int32) (ra : Int32) (rl : Int32) (rf : Int32) (orn : Int32) (ore : Int32) (orh : Int32) (ora : Int32) (orl : Int32) (orf : Int32) (R : Int32 × Int32 × Int32 × Int32 × Int32 × Int32) (h : f_X7_copyFrom orn ore orh ora orl orf = some R) : Mu l D cI cZ cK yX7_copyFrom cX7_copyFrom 2 none rm_X7_copyFrom [.ref a0, .ref b0] [(a0, .inr (7, [.int rn, .int re, .int rh, .int ra, .int rl, .int rf])), (b0, .inr (7, [.int orn, .int ore, .int orh, .int ora, .int orl, .int orf]))] none [(a0, .inr (7, [.int R.1, .int R.2.1, .int R.2.2.1, .int R.2.2.2.1, .int R.2.2.2.2.1, .int R.2.2.2.2.2])), (b0, .inr (7, [.int orn, .int ore, .int orh, .int ora, .int orl, .int orf]))] := by
  refine mv_of (by decide) (Nat.le_of_ble_eq_true rfl) ?_
  intro p e s m args below meth c Q A ls hx hb hml hown hk hA w hret hl
  have hl : lv_has ls 2 [(0, .ref a0), (1, .ref b0)] := hl
  obtain ⟨C0, hC0, h⟩ := sat_top h
  unfold f_X7_copyFrom at h
  refine lv_aload_n hx hb dX7_copyFrom_0 rfl (lv_at hl 0 rfl) ?_
  refine lv_aload_n hx hb dX7_copyFrom_1 rfl (lv_at hl 1 rfl) ?_
  refine gf_X7_12 hx hb hown hk w.1 1 rfl rfl dX7_copyFrom_2 ?_
  refine pf_X7_12 (ws' := [(a0, .inr (7, [.int orn, .int re, .int rh, .int ra, .int rl, .int rf])), (b0, .inr (7, [.int orn, .int ore, .int orh, .int ora, .int orl, .int orf]))]) hx hb hown hk w 0 rfl (Nat.le_of_ble_eq_true rfl) rfl dX7_copyFrom_5 (fun H locs w => ?_)
  refine lv_aload_n hx hb dX7_copyFrom_8 rfl (lv_at hl 0 rfl) ?_
  refine lv_aload_n hx hb dX7_copyFrom_9 rfl (lv_at hl 1 rfl) ?_
  refine gf_X7_16 hx hb hown hk w.1 1 rfl rfl dX7_copyFrom_10 ?_
  refine pf_X7_16 (ws' := [(a0, .inr (7, [.int orn, .int ore, .int rh, .int ra, .int rl, .int rf])), (b0, .inr (7, [.int orn, .int ore, .int orh, .int ora, .int orl, .int orf]))]) hx hb hown hk w 0 rfl (Nat.le_of_ble_eq_true rfl) rfl dX7_copyFrom_13 (fun H locs w => ?_)
  refine lv_aload_n hx hb dX7_copyFrom_16 rfl (lv_at hl 0 rfl) ?_
  refine lv_aload_n hx hb dX7_copyFrom_17 rfl (lv_at hl 1 rfl) ?_
  refine gf_X7_19 hx hb hown hk w.1 1 rfl rfl dX7_copyFrom_18 ?_
  refine pf_X7_19 (ws' := [(a0, .inr (7, [.int orn, .int ore, .int orh, .int ra, .int rl, .int rf])), (b0, .inr (7, [.int orn, .int ore, .int orh, .int ora, .int orl, .int orf]))]) hx hb hown hk w 0 rfl (Nat.le_of_ble_eq_true rfl) rfl dX7_copyFrom_21 (fun H locs w => ?_)
  refine lv_aload_n hx hb dX7_copyFrom_24 rfl (lv_at hl 0 rfl) ?_
  refine lv_aload_n hx hb dX7_copyFrom_25 rfl (lv_at hl 1 rfl) ?_
  refine gf_X7_22 hx hb hown hk w.1 1 rfl rfl dX7_copyFrom_26 ?_
  refine pf_X7_22 (ws' := [(a0, .inr (7, [.int orn, .int ore, .int orh, .int ora, .int rl, .int rf])), (b0, .inr (7, [.int orn, .int ore, .int orh, .int ora, .int orl, .int orf]))]) hx hb hown hk w 0 rfl (Nat.le_of_ble_eq_true rfl) rfl dX7_copyFrom_29 (fun H locs w => ?_)
  refine lv_aload_n hx hb dX7_copyFrom_32 rfl (lv_at hl 0 rfl) ?_
  refine lv_aload_n hx hb dX7_copyFrom_33 rfl (lv_at hl 1 rfl) ?_
  refine gf_X7_25 hx hb hown hk w.1 1 rfl rfl dX7_copyFrom_34 ?_
  refine pf_X7_25 (ws' := [(a0, .inr (7, [.int orn, .int ore, .int orh, .int ora, .int orl, .int rf])), (b0, .inr (7, [.int orn, .int ore, .int orh, .int ora, .int orl, .int orf]))]) hx hb hown hk w 0 rfl (Nat.le_of_ble_eq_true rfl) rfl dX7_copyFrom_37 (fun H locs w => ?_)
  refine lv_aload_n hx hb dX7_copyFrom_40 rfl (lv_at hl 0 rfl) ?_
  refine lv_aload_n hx hb dX7_copyFrom_41 rfl (lv_at hl 1 rfl) ?_
  refine gf_X7_28 hx hb hown hk w.1 1 rfl rfl dX7_copyFrom_42 ?_
  refine pf_X7_28 (ws' := [(a0, .inr (7, [.int orn, .int ore, .int orh, .int ora, .int orl, .int orf])), (b0, .inr (7, [.int orn, .int ore, .int orh, .int ora, .int orl, .int orf]))]) hx hb hown hk w 0 rfl (Nat.le_of_ble_eq_true rfl) rfl dX7_copyFrom_45 (fun H locs w => ?_)
  have hR := hC0 _ (sat_some h)
  subst hR
  exact hret _ _ _ _ w dX7_copyFrom_48
def f_X9_append (tx : ar) (tn : Int32) (x1 : Int32) : Option (Bool × Int32 × ar) := if tn < 120 then ck (inb tn 120) (some (true, tn + 1, upd tx tn.toNatClampNeg x1)) else some (false, tn, tx)
abbrev rm_X9_append : Room := { frames := 0, cells := 0, slots := 0, locals := 0 }
set_option maxRecDepth 100000 in
set_option maxHeartbeats 4000000 in
theorem k_X9_append (l : Launch) (D : va_G) (cI cZ cK : ClassId) (a0 a1 : Nat) (tn : Int32) (tx : ar) (x1 : Int32) (R : Bool × Int32 × ar) (h : f_X9_append tx tn x1 = some R) : Mu l D cI cZ cK yX9_append cX9_append 2 (some .boolean) rm_X9_append [.ref a0, .int x1] [(a0, .inr (9, [.ref a1, .int tn])), (a1, .inl (cI, 120, .inl tx))] (some (.int (b2i R.1))) [(a0, .inr (9, [.ref a1, .int R.2.1])), (a1, .inl (cI, 120, .inl R.2.2))] := by
  refine mi_of (by decide) (nar_b _) (Nat.le_of_ble_eq_true rfl) ?_
  intro p e s m args below meth c Q A ls hx hb hml hown hk hA w hret hl
  have hl : lv_has ls 2 [(0, .ref a0), (1, .int x1)] := hl
  obtain ⟨C0, hC0, h⟩ := sat_top h
  unfold f_X9_append at h
  refine lv_aload_n hx hb dX9_append_0 rfl (lv_at hl 0 rfl) ?_
  refine gf_X9_15 hx hb hown hk w.1 0 rfl rfl dX9_append_1 ?_
  refine lv_bipush (v := 120) hx hb dX9_append_4 (by decide) ?_
  refine lv_icmp_lt (tgt := 11) hx hb dX9_append_6 (by decide) (fun c6 => ?_) (fun c6 => ?_)
  · have h := sat_t c6 h
    refine lv_aload_n hx hb dX9_append_11 rfl (lv_at hl 0 rfl) ?_
    refine gf_X9_9 hx hb hown hk w.1 0 rfl rfl dX9_append_12 ?_
    refine lv_aload_n hx hb dX9_append_15 rfl (lv_at hl 0 rfl) ?_
    refine gf_X9_15 hx hb hown hk w.1 0 rfl rfl dX9_append_16 ?_
    refine lv_iload_n hx hb dX9_append_19 rfl (lv_at hl 1 rfl) ?_
    obtain ⟨hi, h⟩ := sat_in h
    refine ra_ist (ws' := [(a0, .inr (9, [.ref a1, .int tn])), (a1, .inl (cI, 120, .inl (upd tx tn.toNatClampNeg x1)))]) hx hb hk w 1 rfl hi rfl dX9_append_20 (fun H locs w => ?_)
    refine lv_aload_n hx hb dX9_append_21 rfl (lv_at hl 0 rfl) ?_
    refine lv_dup hx hb dX9_append_22 rfl ?_
    refine gf_X9_15 hx hb hown hk w.1 0 rfl rfl dX9_append_23 ?_
    refine lv_iconst (v := 1) hx hb dX9_append_26 (by decide) ?_
    refine lv_iadd hx hb dX9_append_27 ?_
    refine pf_X9_15 (ws' := [(a0, .inr (9, [.ref a1, .int (tn + 1)])), (a1, .inl (cI, 120, .inl (upd tx tn.toNatClampNeg x1)))]) hx hb hown hk w 0 rfl (Nat.le_of_ble_eq_true rfl) rfl dX9_append_28 (fun H locs w => ?_)
    refine lv_iconst (v := 1) hx hb dX9_append_31 (by decide) ?_
    have hR := hC0 _ (sat_some h)
    subst hR
    exact hret _ _ _ _ w dX9_append_32
  · have h := sat_f c6 h
    refine lv_iconst (v := 0) hx hb dX9_append_9 (by decide) ?_
    have hR := hC0 _ (sat_some h)
    subst hR
    exact hret _ _ _ _ w dX9_append_10
def f_X0_drop_L2 : Nat → Int32 → ar → Option (ar)
  | 0, _, _ => none
  | n + 1, x1_2, ik_2 => if 2 ≤ x1_2 then some ik_2 else ck (inb x1_2 2) (f_X0_drop_L2 n (x1_2 + 1) (upd ik_2 x1_2.toNatClampNeg 0))
def f_X0_drop (N : Nat) (ik : ar) : Option (ar) := Option.bind (f_X0_drop_L2 N 0 ik) fun s2 => some s2
abbrev rm_X0_drop : Room := { frames := 0, cells := 0, slots := 0, locals := 0 }
set_option maxRecDepth 100000 in
set_option maxHeartbeats 4000000 in
theorem k_X0_drop (l : Launch) (D : va_G) (cI cZ cK : ClassId) (N : Nat) (a0 a1 a2 : Nat) (ik : ar) (R : ar) (h : f_X0_drop N ik = some R) : Mu l D cI cZ cK yX0_drop cX0_drop 2 none rm_X0_drop [.ref a0] [(a0, .inr (0, [.ref a1, .ref a2])), (a2, .inl (cZ, 2, .inl ik))] none [(a0, .inr (0, [.ref a1, .ref a2])), (a2, .inl (cZ, 2, .inl R))] := by
  refine mv_of (by decide) (Nat.le_of_ble_eq_true rfl) ?_
  intro p e s m args below meth c Q A ls hx hb hml hown hk hA w hret hl
  have hl : lv_has ls 2 [(0, .ref a0)] := hl
  obtain ⟨C0, hC0, h⟩ := sat_top h
  unfold f_X0_drop at h
  refine lv_iconst (v := 0) hx hb dX0_drop_0 (by decide) ?_
  refine lv_istore_n (lv' := [(1, .int 0), (0, .ref a0)]) hx hb dX0_drop_1 rfl hl (by decide) rfl (fun ls hl => ?_)
  obtain ⟨T2, hT2, h⟩ := sat_reg h
  have E2 : ∀ (ik_1 : ar) (H : Heap) (locs : List Loc) (ls : Array Slot), T2 ik_1 → wd D A s.heap H locs [(a0, .inr (0, [.ref a1, .ref a2])), (a2, .inl (cZ, 2, .inl ik_1))] → lv_has ls 2 [] → W p l e rm_X0_drop s m args below meth c H locs 0 0 Q (F0 m 20 ls []) := by
    intro ik_1 H locs ls h w hl
    have h := hT2 _ h
    have hR := hC0 _ (sat_some h)
    subst hR
    exact hret _ _ _ _ w dX0_drop_20
  have L2 : ∀ (n : Nat) (x1_2 : Int32) (ik_2 : ar) (H : Heap) (locs : List Loc) (ls : Array Slot), sat (f_X0_drop_L2 n x1_2 ik_2) T2 → wd D A s.heap H locs [(a0, .inr (0, [.ref a1, .ref a2])), (a2, .inl (cZ, 2, .inl ik_2))] → lv_has ls 2 [(0, .ref a0), (1, .int x1_2)] → W p l e rm_X0_drop s m args below meth c H locs 0 0 Q (F0 m 2 ls []) := by
    intro n
    induction n with
    | zero =>
      intro x1_2 ik_2 H locs ls h
      rw [f_X0_drop_L2] at h
      exact (sat_none h).elim
    | succ n ih =>
      intro x1_2 ik_2 H locs ls h w hl
      rw [f_X0_drop_L2] at h
      refine lv_iload_n hx hb dX0_drop_2 rfl (lv_at hl 1 rfl) ?_
      refine lv_iconst (v := 2) hx hb dX0_drop_3 (by decide) ?_
      refine lv_icmp_ge (tgt := 20) hx hb dX0_drop_4 (by decide) (fun c4 => ?_) (fun c4 => ?_)
      · have h := sat_t c4 h
        exact E2 ik_2 _ _ _ (sat_some h) w (lv_sub hl [] rfl)
      · have h := sat_f c4 h
        refine lv_aload_n hx hb dX0_drop_7 rfl (lv_at hl 0 rfl) ?_
        refine gf_X0_17 hx hb hown hk w.1 0 rfl rfl dX0_drop_8 ?_
        refine lv_iload_n hx hb dX0_drop_11 rfl (lv_at hl 1 rfl) ?_
        refine lv_iconst (v := 0) hx hb dX0_drop_12 (by decide) ?_
        obtain ⟨hi, h⟩ := sat_in h
        refine ra_zst (ws' := [(a0, .inr (0, [.ref a1, .ref a2])), (a2, .inl (cZ, 2, .inl (upd ik_2 x1_2.toNatClampNeg 0)))]) hx hb hk w 1 rfl hi (by decide) rfl dX0_drop_13 (fun H locs w => ?_)
        refine lv_iinc (v := x1_2 + 1) (lv' := [(1, .int (x1_2 + 1)), (0, .ref a0)]) hx hb dX0_drop_14 hl (k := 1) rfl (congrArg (fun z => x1_2 + z) (by decide)) (by decide) rfl (fun ls hl => ?_)
        refine lv_goto (tgt := 2) hx hb dX0_drop_17 (by decide) ?_
        exact ih (x1_2 + 1) (upd ik_2 x1_2.toNatClampNeg 0) _ _ _ h w (lv_sub hl [1, 0] rfl)
  exact L2 N 0 ik _ _ _ h w (lv_sub hl [1, 0] rfl)
