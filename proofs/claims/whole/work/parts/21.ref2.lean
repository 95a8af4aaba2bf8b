def f_X12_guessNow (m_age : Int32) (m_first : Int32) (m_now : ar) (x1 : Int32) (x2 : Int32) (x3 : Int32) : Option (Int32) := Option.bind (f_X12_guessAt x1 x2 x3) fun r_1 => ck (inb (406 + r_1) 622) (if (m_now (406 + r_1).toNatClampNeg) < 0 then some (64 * m_first) else ck (inb 0 622) (if ((m_now (0 : Int32).toNatClampNeg) - (m_now (406 + r_1).toNatClampNeg)) ≤ m_age then ck (inb (190 + r_1) 622) (some (m_now (190 + r_1).toNatClampNeg)) else some (64 * m_first)))
abbrev rm_X12_guessNow : Room := { frames := 1, cells := 0, slots := 0, locals := 22 }
set_option maxRecDepth 100000 in
set_option maxHeartbeats 4000000 in
theorem k_X12_guessNow (l : Launch) (D : va_G) (cI cZ cK : ClassId) (a0 a1 a2 a3 a4 a5 a6 a7 a8 a9 a10 a11 : Nat) (m_nodes : Int32) (m_every : Int32) (m_halves : Int32) (m_age : Int32) (m_life : Int32) (m_first : Int32) (m_undoMany : Int32) (m_undoAt : Int32) (m_letterMany : Int32) (m_readAt : Int32) (m_tokenAt : Int32) (m_token : Int32) (m_newNodes : Int32) (m_newEvery : Int32) (m_newHalves : Int32) (m_newAge : Int32) (m_newLife : Int32) (m_newFirst : Int32) (m_newLinks : Int32) (m_pathMany : Int32) (m_pathDelay : Int32) (m_seenMany : Int32) (m_now : ar) (x1 : Int32) (x2 : Int32) (x3 : Int32) (R : Int32) (h : f_X12_guessNow m_age m_first m_now x1 x2 x3 = some R) : Rd l D cI cZ cK yX12_guessNow cX12_guessNow 6 (some .int) rm_X12_guessNow [.ref a0, .int x1, .int x2, .int x3] [(a0, .inr (12, [.int m_nodes, .int m_every, .int m_halves, .int m_age, .int m_life, .int m_first, .ref a1, .int m_undoMany, .int m_undoAt, .ref a2, .ref a3, .ref a4, .int m_letterMany, .ref a5, .int m_readAt, .int m_tokenAt, .int m_token, .int m_newNodes, .int m_newEvery, .int m_newHalves, .int m_newAge, .int m_newLife, .int m_newFirst, .int m_newLinks, .ref a6, .int m_pathMany, .int m_pathDelay, .ref a7, .ref a8, .int m_seenMany, .ref a9, .ref a10, .ref a11])), (a1, .inl (cI, 622, .inl m_now))] R := by
  refine rd_of (by decide) (vp_nar_int _) (Nat.le_of_ble_eq_true rfl) ?_
  intro p e s m args below meth c Q ls hx hb hml hown hk hP hret hl
  have hl : lv_has ls 6 [(0, .ref a0), (1, .int x1), (2, .int x2), (3, .int x3)] := hl
  obtain ⟨C0, hC0, h⟩ := sat_top h
  unfold f_X12_guessNow at h
  refine lv_iload_n hx hb dX12_guessNow_0 rfl (lv_at hl 1 rfl) ?_
  refine lv_iload_n hx hb dX12_guessNow_1 rfl (lv_at hl 2 rfl) ?_
  refine lv_iload_n hx hb dX12_guessNow_2 rfl (lv_at hl 3 rfl) ?_
  obtain ⟨r_1, e_1, h⟩ := sat_bind h
  refine cRS (rest := []) hx hb hml hown hk (k_X12_guessAt l D cI cZ cK x1 x2 x3 r_1 e_1) (me_X12_guessAt hk.2.1) (ms_X12_guessAt hk.2.1) (ml_X12_139 hk.2.1) (hP.sub [] rfl) hl.1 rfl rfl (Nat.le_of_ble_eq_true rfl) ⟨rfl, rfl, Nat.le_of_ble_eq_true rfl, Nat.le_of_ble_eq_true rfl, Nat.zero_le _, Nat.zero_le _⟩ dX12_guessNow_3 ?_
  refine lv_istore (lv' := [(4, .int r_1), (0, .ref a0), (1, .int x1), (2, .int x2), (3, .int x3)]) hx hb dX12_guessNow_6 hl (by decide) rfl (fun ls hl => ?_)
  refine lv_aload_n hx hb dX12_guessNow_8 rfl (lv_at hl 1 rfl) ?_
  refine gf_X12_19 hx hb hown hk hP 0 rfl rfl dX12_guessNow_9 ?_
  refine lv_sipush (v := 406) hx hb dX12_guessNow_12 (by decide) ?_
  refine lv_iload hx hb dX12_guessNow_15 (lv_at hl 0 rfl) ?_
  refine lv_iadd hx hb dX12_guessNow_17 ?_
  obtain ⟨hi, h⟩ := sat_in h
  refine va_iald hx hb hk.1 hP 1 0 rfl rfl hi dX12_guessNow_18 ?_
  refine lv_istore (lv' := [(5, .int (m_now (406 + r_1).toNatClampNeg)), (4, .int r_1), (0, .ref a0), (1, .int x1), (2, .int x2), (3, .int x3)]) hx hb dX12_guessNow_19 hl (by decide) rfl (fun ls hl => ?_)
  refine lv_iload hx hb dX12_guessNow_21 (lv_at hl 0 rfl) ?_
  refine lv_if_lt (tgt := 42) hx hb dX12_guessNow_23 (by decide) (fun c23 => ?_) (fun c23 => ?_)
  · have h := sat_t c23 h
    refine lv_bipush (v := 64) hx hb dX12_guessNow_42 (by decide) ?_
    refine lv_aload_n hx hb dX12_guessNow_44 rfl (lv_at hl 2 rfl) ?_
    refine gf_X12_126 hx hb hown hk hP 0 rfl rfl dX12_guessNow_45 ?_
    refine lv_imul hx hb dX12_guessNow_48 ?_
    refine lv_goto (tgt := 63) hx hb dX12_guessNow_49 (by decide) ?_
    have hR := hC0 _ (sat_some h)
    subst hR
    exact hret _ _ dX12_guessNow_63
  · have h := sat_f c23 h
    refine lv_aload_n hx hb dX12_guessNow_26 rfl (lv_at hl 2 rfl) ?_
    refine gf_X12_19 hx hb hown hk hP 0 rfl rfl dX12_guessNow_27 ?_
    refine lv_iconst (v := 0) hx hb dX12_guessNow_30 (by decide) ?_
    obtain ⟨hi, h⟩ := sat_in h
    refine va_iald hx hb hk.1 hP 1 0 rfl rfl hi dX12_guessNow_31 ?_
    refine lv_iload hx hb dX12_guessNow_32 (lv_at hl 0 rfl) ?_
    refine lv_isub hx hb dX12_guessNow_34 ?_
    refine lv_aload_n hx hb dX12_guessNow_35 rfl (lv_at hl 2 rfl) ?_
    refine gf_X12_13 hx hb hown hk hP 0 rfl rfl dX12_guessNow_36 ?_
    refine lv_icmp_le (tgt := 52) hx hb dX12_guessNow_39 (by decide) (fun c39 => ?_) (fun c39 => ?_)
    · have h := sat_t c39 h
      refine lv_aload_n hx hb dX12_guessNow_52 rfl (lv_at hl 2 rfl) ?_
      refine gf_X12_19 hx hb hown hk hP 0 rfl rfl dX12_guessNow_53 ?_
      refine lv_sipush (v := 190) hx hb dX12_guessNow_56 (by decide) ?_
      refine lv_iload hx hb dX12_guessNow_59 (lv_at hl 1 rfl) ?_
      refine lv_iadd hx hb dX12_guessNow_61 ?_
      obtain ⟨hi, h⟩ := sat_in h
      refine va_iald hx hb hk.1 hP 1 0 rfl rfl hi dX12_guessNow_62 ?_
      have hR := hC0 _ (sat_some h)
      subst hR
      exact hret _ _ dX12_guessNow_63
    · have h := sat_f c39 h
      refine lv_bipush (v := 64) hx hb dX12_guessNow_42 (by decide) ?_
      refine lv_aload_n hx hb dX12_guessNow_44 rfl (lv_at hl 2 rfl) ?_
      refine gf_X12_126 hx hb hown hk hP 0 rfl rfl dX12_guessNow_45 ?_
      refine lv_imul hx hb dX12_guessNow_48 ?_
      refine lv_goto (tgt := 63) hx hb dX12_guessNow_49 (by decide) ?_
      have hR := hC0 _ (sat_some h)
      subst hR
      exact hret _ _ dX12_guessNow_63
def f_X12_bestOf_L11 (m_age : Int32) (m_first : Int32) (m_now : ar) (x1 : Int32) (x2 : Int32) : Nat → Int32 → Int32 → Option (Int32)
  | 0, _, _ => none
  | n + 1, x3_11, x4_11 => if x4_11 < 0 then some x3_11 else Option.bind (f_X12_delay m_now x1 x4_11) fun r_1 => if r_1 ≤ 0 then f_X12_bestOf_L11 m_age m_first m_now x1 x2 n x3_11 (x4_11 + (-1)) else if x3_11 = (-9) then f_X12_bestOf_L11 m_age m_first m_now x1 x2 n x4_11 (x4_11 + (-1)) else Option.bind (f_X12_guessNow m_age m_first m_now x1 x2 x4_11) fun r_2 => Option.bind (f_X12_guessNow m_age m_first m_now x1 x2 x3_11) fun r_3 => if r_3 < r_2 then f_X12_bestOf_L11 m_age m_first m_now x1 x2 n x3_11 (x4_11 + (-1)) else f_X12_bestOf_L11 m_age m_first m_now x1 x2 n x4_11 (x4_11 + (-1))
def f_X12_bestOf (N : Nat) (m_nodes : Int32) (m_age : Int32) (m_first : Int32) (m_now : ar) (x1 : Int32) (x2 : Int32) : Option (Int32) := Option.bind (f_X12_bestOf_L11 m_age m_first m_now x1 x2 N (-9) (m_nodes - 1)) fun s11 => some s11
abbrev rm_X12_bestOf : Room := { frames := 2, cells := 0, slots := 0, locals := 47 }
set_option maxRecDepth 100000 in
set_option maxHeartbeats 4000000 in
theorem k_X12_bestOf (l : Launch) (D : va_G) (cI cZ cK : ClassId) (N : Nat) (a0 a1 a2 a3 a4 a5 a6 a7 a8 a9 a10 a11 : Nat) (m_nodes : Int32) (m_every : Int32) (m_halves : Int32) (m_age : Int32) (m_life : Int32) (m_first : Int32) (m_undoMany : Int32) (m_undoAt : Int32) (m_letterMany : Int32) (m_readAt : Int32) (m_tokenAt : Int32) (m_token : Int32) (m_newNodes : Int32) (m_newEvery : Int32) (m_newHalves : Int32) (m_newAge : Int32) (m_newLife : Int32) (m_newFirst : Int32) (m_newLinks : Int32) (m_pathMany : Int32) (m_pathDelay : Int32) (m_seenMany : Int32) (m_now : ar) (x1 : Int32) (x2 : Int32) (R : Int32) (h : f_X12_bestOf N m_nodes m_age m_first m_now x1 x2 = some R) : Rd l D cI cZ cK yX12_bestOf cX12_bestOf 5 (some .int) rm_X12_bestOf [.ref a0, .int x1, .int x2] [(a0, .inr (12, [.int m_nodes, .int m_every, .int m_halves, .int m_age, .int m_life, .int m_first, .ref a1, .int m_undoMany, .int m_undoAt, .ref a2, .ref a3, .ref a4, .int m_letterMany, .ref a5, .int m_readAt, .int m_tokenAt, .int m_token, .int m_newNodes, .int m_newEvery, .int m_newHalves, .int m_newAge, .int m_newLife, .int m_newFirst, .int m_newLinks, .ref a6, .int m_pathMany, .int m_pathDelay, .ref a7, .ref a8, .int m_seenMany, .ref a9, .ref a10, .ref a11])), (a1, .inl (cI, 622, .inl m_now))] R := by
  refine rd_of (by decide) (vp_nar_int _) (Nat.le_of_ble_eq_true rfl) ?_
  intro p e s m args below meth c Q ls hx hb hml hown hk hP hret hl
  have hl : lv_has ls 5 [(0, .ref a0), (1, .int x1), (2, .int x2)] := hl
  obtain ⟨C0, hC0, h⟩ := sat_top h
  unfold f_X12_bestOf at h
  refine lv_bipush (v := (-9)) hx hb dX12_bestOf_0 (by decide) ?_
  refine lv_istore_n (lv' := [(3, .int (-9)), (0, .ref a0), (1, .int x1), (2, .int x2)]) hx hb dX12_bestOf_2 rfl hl (by decide) rfl (fun ls hl => ?_)
  refine lv_aload_n hx hb dX12_bestOf_3 rfl (lv_at hl 1 rfl) ?_
  refine gf_X12_7 hx hb hown hk hP 0 rfl rfl dX12_bestOf_4 ?_
  refine lv_iconst (v := 1) hx hb dX12_bestOf_7 (by decide) ?_
  refine lv_isub hx hb dX12_bestOf_8 ?_
  refine lv_istore (lv' := [(4, .int (m_nodes - 1)), (3, .int (-9)), (0, .ref a0), (1, .int x1), (2, .int x2)]) hx hb dX12_bestOf_9 hl (by decide) rfl (fun ls hl => ?_)
  obtain ⟨T11, hT11, h⟩ := sat_reg h
  have E11 : ∀ (e3_4 : Int32) (ls : Array Slot), T11 e3_4 → lv_has ls 5 [(3, .int e3_4)] → W p l e rm_X12_bestOf s m args below meth c s.heap [] 0 0 Q (F0 m 59 ls []) := by
    intro e3_4 ls h hl
    have h := hT11 _ h
    refine lv_iload_n hx hb dX12_bestOf_59 rfl (lv_at hl 0 rfl) ?_
    have hR := hC0 _ (sat_some h)
    subst hR
    exact hret _ _ dX12_bestOf_60
  have L11 : ∀ (n : Nat) (x3_11 : Int32) (x4_11 : Int32) (ls : Array Slot), sat (f_X12_bestOf_L11 m_age m_first m_now x1 x2 n x3_11 x4_11) T11 → lv_has ls 5 [(0, .ref a0), (1, .int x1), (2, .int x2), (3, .int x3_11), (4, .int x4_11)] → W p l e rm_X12_bestOf s m args below meth c s.heap [] 0 0 Q (F0 m 11 ls []) := by
    intro n
    induction n with
    | zero =>
      intro x3_11 x4_11 ls h
      rw [f_X12_bestOf_L11] at h
      exact (sat_none h).elim
    | succ n ih =>
      intro x3_11 x4_11 ls h hl
      rw [f_X12_bestOf_L11] at h
      refine lv_iload hx hb dX12_bestOf_11 (lv_at hl 4 rfl) ?_
      refine lv_if_lt (tgt := 59) hx hb dX12_bestOf_13 (by decide) (fun c13 => ?_) (fun c13 => ?_)
      · have h := sat_t c13 h
        exact E11 x3_11 _ (sat_some h) (lv_sub hl [3] rfl)
      · have h := sat_f c13 h
        refine lv_aload_n hx hb dX12_bestOf_16 rfl (lv_at hl 0 rfl) ?_
        refine lv_iload_n hx hb dX12_bestOf_17 rfl (lv_at hl 1 rfl) ?_
        refine lv_iload hx hb dX12_bestOf_18 (lv_at hl 4 rfl) ?_
        obtain ⟨r_1, e_1, h⟩ := sat_bind h
        refine cRV (rest := []) hx hb hml hown hk (k_X12_delay l D cI cZ cK a0 a1 a2 a3 a4 a5 a6 a7 a8 a9 a10 a11 m_nodes m_every m_halves m_age m_life m_first m_undoMany m_undoAt m_letterMany m_readAt m_tokenAt m_token m_newNodes m_newEvery m_newHalves m_newAge m_newLife m_newFirst m_newLinks m_pathMany m_pathDelay m_seenMany m_now x1 x4_11 r_1 e_1) (me_X12_delay hk.2.1) (mi_X12_delay hk.2.1) (ml_X12_143 hk.2.1) (hP.sub [0, 1] rfl) 0 rfl rfl rfl hl.1 rfl rfl (Nat.le_of_ble_eq_true rfl) ⟨rfl, rfl, Nat.le_of_ble_eq_true rfl, Nat.le_of_ble_eq_true rfl, Nat.zero_le _, Nat.zero_le _⟩ dX12_bestOf_20 ?_
        refine lv_if_le (tgt := 53) hx hb dX12_bestOf_23 (by decide) (fun c23 => ?_) (fun c23 => ?_)
        · have h := sat_t c23 h
          refine lv_iinc (v := x4_11 + (-1)) (lv' := [(4, .int (x4_11 + (-1))), (0, .ref a0), (1, .int x1), (2, .int x2), (3, .int x3_11)]) hx hb dX12_bestOf_53 hl (k := 4) rfl (congrArg (fun z => x4_11 + z) (by decide)) (by decide) rfl (fun ls hl => ?_)
          refine lv_goto (tgt := 11) hx hb dX12_bestOf_56 (by decide) ?_
          exact ih x3_11 (x4_11 + (-1)) _ h (lv_sub hl [1, 2, 3, 4, 0] rfl)
        · have h := sat_f c23 h
          refine lv_iload_n hx hb dX12_bestOf_26 rfl (lv_at hl 3 rfl) ?_
          refine lv_bipush (v := (-9)) hx hb dX12_bestOf_27 (by decide) ?_
          refine lv_icmp_eq (tgt := 50) hx hb dX12_bestOf_29 (by decide) (fun c29 => ?_) (fun c29 => ?_)
          · have h := sat_t c29 h
            refine lv_iload hx hb dX12_bestOf_50 (lv_at hl 4 rfl) ?_
            refine lv_istore_n (lv' := [(3, .int x4_11), (0, .ref a0), (1, .int x1), (2, .int x2), (4, .int x4_11)]) hx hb dX12_bestOf_52 rfl hl (by decide) rfl (fun ls hl => ?_)
            refine lv_iinc (v := x4_11 + (-1)) (lv' := [(4, .int (x4_11 + (-1))), (3, .int x4_11), (0, .ref a0), (1, .int x1), (2, .int x2)]) hx hb dX12_bestOf_53 hl (k := 4) rfl (congrArg (fun z => x4_11 + z) (by decide)) (by decide) rfl (fun ls hl => ?_)
            refine lv_goto (tgt := 11) hx hb dX12_bestOf_56 (by decide) ?_
            exact ih x4_11 (x4_11 + (-1)) _ h (lv_sub hl [2, 3, 4, 1, 0] rfl)
          · have h := sat_f c29 h
            refine lv_aload_n hx hb dX12_bestOf_32 rfl (lv_at hl 0 rfl) ?_
            refine lv_iload_n hx hb dX12_bestOf_33 rfl (lv_at hl 1 rfl) ?_
            refine lv_iload_n hx hb dX12_bestOf_34 rfl (lv_at hl 2 rfl) ?_
            refine lv_iload hx hb dX12_bestOf_35 (lv_at hl 4 rfl) ?_
            obtain ⟨r_2, e_2, h⟩ := sat_bind h
            refine cRV (rest := []) hx hb hml hown hk (k_X12_guessNow l D cI cZ cK a0 a1 a2 a3 a4 a5 a6 a7 a8 a9 a10 a11 m_nodes m_every m_halves m_age m_life m_first m_undoMany m_undoAt m_letterMany m_readAt m_tokenAt m_token m_newNodes m_newEvery m_newHalves m_newAge m_newLife m_newFirst m_newLinks m_pathMany m_pathDelay m_seenMany m_now x1 x2 x4_11 r_2 e_2) (me_X12_guessNow hk.2.1) (mi_X12_guessNow hk.2.1) (ml_X12_146 hk.2.1) (hP.sub [0, 1] rfl) 0 rfl rfl rfl hl.1 rfl rfl (Nat.le_of_ble_eq_true rfl) ⟨rfl, rfl, Nat.le_of_ble_eq_true rfl, Nat.le_of_ble_eq_true rfl, Nat.zero_le _, Nat.zero_le _⟩ dX12_bestOf_37 ?_
            refine lv_aload_n hx hb dX12_bestOf_40 rfl (lv_at hl 0 rfl) ?_
            refine lv_iload_n hx hb dX12_bestOf_41 rfl (lv_at hl 1 rfl) ?_
            refine lv_iload_n hx hb dX12_bestOf_42 rfl (lv_at hl 2 rfl) ?_
            refine lv_iload_n hx hb dX12_bestOf_43 rfl (lv_at hl 3 rfl) ?_
            obtain ⟨r_3, e_3, h⟩ := sat_bind h
            refine cRV (rest := [.int r_2]) hx hb hml hown hk (k_X12_guessNow l D cI cZ cK a0 a1 a2 a3 a4 a5 a6 a7 a8 a9 a10 a11 m_nodes m_every m_halves m_age m_life m_first m_undoMany m_undoAt m_letterMany m_readAt m_tokenAt m_token m_newNodes m_newEvery m_newHalves m_newAge m_newLife m_newFirst m_newLinks m_pathMany m_pathDelay m_seenMany m_now x1 x2 x3_11 r_3 e_3) (me_X12_guessNow hk.2.1) (mi_X12_guessNow hk.2.1) (ml_X12_146 hk.2.1) (hP.sub [0, 1] rfl) 0 rfl rfl rfl hl.1 rfl rfl (Nat.le_of_ble_eq_true rfl) ⟨rfl, rfl, Nat.le_of_ble_eq_true rfl, Nat.le_of_ble_eq_true rfl, Nat.zero_le _, Nat.zero_le _⟩ dX12_bestOf_44 ?_
            refine lv_icmp_gt (tgt := 53) hx hb dX12_bestOf_47 (by decide) (fun c47 => ?_) (fun c47 => ?_)
            · have h := sat_t c47 h
              refine lv_iinc (v := x4_11 + (-1)) (lv' := [(4, .int (x4_11 + (-1))), (0, .ref a0), (1, .int x1), (2, .int x2), (3, .int x3_11)]) hx hb dX12_bestOf_53 hl (k := 4) rfl (congrArg (fun z => x4_11 + z) (by decide)) (by decide) rfl (fun ls hl => ?_)
              refine lv_goto (tgt := 11) hx hb dX12_bestOf_56 (by decide) ?_
              exact ih x3_11 (x4_11 + (-1)) _ h (lv_sub hl [1, 2, 3, 4, 0] rfl)
            · have h := sat_f c47 h
              refine lv_iload hx hb dX12_bestOf_50 (lv_at hl 4 rfl) ?_
              refine lv_istore_n (lv' := [(3, .int x4_11), (0, .ref a0), (1, .int x1), (2, .int x2), (4, .int x4_11)]) hx hb dX12_bestOf_52 rfl hl (by decide) rfl (fun ls hl => ?_)
              refine lv_iinc (v := x4_11 + (-1)) (lv' := [(4, .int (x4_11 + (-1))), (3, .int x4_11), (0, .ref a0), (1, .int x1), (2, .int x2)]) hx hb dX12_bestOf_53 hl (k := 4) rfl (congrArg (fun z => x4_11 + z) (by decide)) (by decide) rfl (fun ls hl => ?_)
              refine lv_goto (tgt := 11) hx hb dX12_bestOf_56 (by decide) ?_
              exact ih x4_11 (x4_11 + (-1)) _ h (lv_sub hl [2, 3, 4, 1, 0] rfl)
  exact L11 N (-9) (m_nodes - 1) _ h (lv_sub hl [2, 3, 4, 1, 0] rfl)
def f_X12_eldestOf_L11 (m_now : ar) (x1 : Int32) (x2 : Int32) : Nat → Int32 → Int32 → Option (Int32)
  | 0, _, _ => none
  | n + 1, x3_11, x4_11 => if x4_11 < 0 then some x3_11 else Option.bind (f_X12_delay m_now x1 x4_11) fun r_1 => if r_1 ≤ 0 then f_X12_eldestOf_L11 m_now x1 x2 n x3_11 (x4_11 + (-1)) else if x3_11 = (-9) then f_X12_eldestOf_L11 m_now x1 x2 n x4_11 (x4_11 + (-1)) else Option.bind (f_X12_guessAt x1 x2 x4_11) fun r_2 => ck (inb (406 + r_2) 622) (Option.bind (f_X12_guessAt x1 x2 x3_11) fun r_3 => ck (inb (406 + r_3) 622) (if (m_now (406 + r_3).toNatClampNeg) < (m_now (406 + r_2).toNatClampNeg) then f_X12_eldestOf_L11 m_now x1 x2 n x3_11 (x4_11 + (-1)) else f_X12_eldestOf_L11 m_now x1 x2 n x4_11 (x4_11 + (-1))))
def f_X12_eldestOf (N : Nat) (m_nodes : Int32) (m_now : ar) (x1 : Int32) (x2 : Int32) : Option (Int32) := Option.bind (f_X12_eldestOf_L11 m_now x1 x2 N (-9) (m_nodes - 1)) fun s11 => some s11
abbrev rm_X12_eldestOf : Room := { frames := 2, cells := 0, slots := 0, locals := 43 }
set_option maxRecDepth 100000 in
set_option maxHeartbeats 4000000 in
theorem k_X12_eldestOf (l : Launch) (D : va_G) (cI cZ cK : ClassId) (N : Nat) (a0 a1 a2 a3 a4 a5 a6 a7 a8 a9 a10 a11 : Nat) (m_nodes : Int32) (m_every : Int32) (m_halves : Int32) (m_age : Int32) (m_life : Int32) (m_first : Int32) (m_undoMany : Int32) (m_undoAt : Int32) (m_letterMany : Int32) (m_readAt : Int32) (m_tokenAt : Int32) (m_token : Int32) (m_newNodes : Int32) (m_newEvery : Int32) (m_newHalves : Int32) (m_newAge : Int32) (m_newLife : Int32) (m_newFirst : Int32) (m_newLinks : Int32) (m_pathMany : Int32) (m_pathDelay : Int32) (m_seenMany : Int32) (m_now : ar) (x1 : Int32) (x2 : Int32) (R : Int32) (h : f_X12_eldestOf N m_nodes m_now x1 x2 = some R) : Rd l D cI cZ cK yX12_eldestOf cX12_eldestOf 5 (some .int) rm_X12_eldestOf [.ref a0, .int x1, .int x2] [(a0, .inr (12, [.int m_nodes, .int m_every, .int m_halves, .int m_age, .int m_life, .int m_first, .ref a1, .int m_undoMany, .int m_undoAt, .ref a2, .ref a3, .ref a4, .int m_letterMany, .ref a5, .int m_readAt, .int m_tokenAt, .int m_token, .int m_newNodes, .int m_newEvery, .int m_newHalves, .int m_newAge, .int m_newLife, .int m_newFirst, .int m_newLinks, .ref a6, .int m_pathMany, .int m_pathDelay, .ref a7, .ref a8, .int m_seenMany, .ref a9, .ref a10, .ref a11])), (a1, .inl (cI, 622, .inl m_now))] R := by
  refine rd_of (by decide) (vp_nar_int _) (Nat.le_of_ble_eq_true rfl) ?_
  intro p e s m args below meth c Q ls hx hb hml hown hk hP hret hl
  have hl : lv_has ls 5 [(0, .ref a0), (1, .int x1), (2, .int x2)] := hl
  obtain ⟨C0, hC0, h⟩ := sat_top h
  unfold f_X12_eldestOf at h
  refine lv_bipush (v := (-9)) hx hb dX12_eldestOf_0 (by decide) ?_
  refine lv_istore_n (lv' := [(3, .int (-9)), (0, .ref a0), (1, .int x1), (2, .int x2)]) hx hb dX12_eldestOf_2 rfl hl (by decide) rfl (fun ls hl => ?_)
  refine lv_aload_n hx hb dX12_eldestOf_3 rfl (lv_at hl 1 rfl) ?_
  refine gf_X12_7 hx hb hown hk hP 0 rfl rfl dX12_eldestOf_4 ?_
  refine lv_iconst (v := 1) hx hb dX12_eldestOf_7 (by decide) ?_
  refine lv_isub hx hb dX12_eldestOf_8 ?_
  refine lv_istore (lv' := [(4, .int (m_nodes - 1)), (3, .int (-9)), (0, .ref a0), (1, .int x1), (2, .int x2)]) hx hb dX12_eldestOf_9 hl (by decide) rfl (fun ls hl => ?_)
  obtain ⟨T11, hT11, h⟩ := sat_reg h
  have E11 : ∀ (e3_4 : Int32) (ls : Array Slot), T11 e3_4 → lv_has ls 5 [(3, .int e3_4)] → W p l e rm_X12_eldestOf s m args below meth c s.heap [] 0 0 Q (F0 m 75 ls []) := by
    intro e3_4 ls h hl
    have h := hT11 _ h
    refine lv_iload_n hx hb dX12_eldestOf_75 rfl (lv_at hl 0 rfl) ?_
    have hR := hC0 _ (sat_some h)
    subst hR
    exact hret _ _ dX12_eldestOf_76
  have L11 : ∀ (n : Nat) (x3_11 : Int32) (x4_11 : Int32) (ls : Array Slot), sat (f_X12_eldestOf_L11 m_now x1 x2 n x3_11 x4_11) T11 → lv_has ls 5 [(0, .ref a0), (1, .int x1), (2, .int x2), (3, .int x3_11), (4, .int x4_11)] → W p l e rm_X12_eldestOf s m args below meth c s.heap [] 0 0 Q (F0 m 11 ls []) := by
    intro n
    induction n with
    | zero =>
      intro x3_11 x4_11 ls h
      rw [f_X12_eldestOf_L11] at h
      exact (sat_none h).elim
    | succ n ih =>
      intro x3_11 x4_11 ls h hl
      rw [f_X12_eldestOf_L11] at h
      refine lv_iload hx hb dX12_eldestOf_11 (lv_at hl 4 rfl) ?_
      refine lv_if_lt (tgt := 75) hx hb dX12_eldestOf_13 (by decide) (fun c13 => ?_) (fun c13 => ?_)
      · have h := sat_t c13 h
        exact E11 x3_11 _ (sat_some h) (lv_sub hl [3] rfl)
      · have h := sat_f c13 h
        refine lv_aload_n hx hb dX12_eldestOf_16 rfl (lv_at hl 0 rfl) ?_
        refine lv_iload_n hx hb dX12_eldestOf_17 rfl (lv_at hl 1 rfl) ?_
        refine lv_iload hx hb dX12_eldestOf_18 (lv_at hl 4 rfl) ?_
        obtain ⟨r_1, e_1, h⟩ := sat_bind h
        refine cRV (rest := []) hx hb hml hown hk (k_X12_delay l D cI cZ cK a0 a1 a2 a3 a4 a5 a6 a7 a8 a9 a10 a11 m_nodes m_every m_halves m_age m_life m_first m_undoMany m_undoAt m_letterMany m_readAt m_tokenAt m_token m_newNodes m_newEvery m_newHalves m_newAge m_newLife m_newFirst m_newLinks m_pathMany m_pathDelay m_seenMany m_now x1 x4_11 r_1 e_1) (me_X12_delay hk.2.1) (mi_X12_delay hk.2.1) (ml_X12_143 hk.2.1) (hP.sub [0, 1] rfl) 0 rfl rfl rfl hl.1 rfl rfl (Nat.le_of_ble_eq_true rfl) ⟨rfl, rfl, Nat.le_of_ble_eq_true rfl, Nat.le_of_ble_eq_true rfl, Nat.zero_le _, Nat.zero_le _⟩ dX12_eldestOf_20 ?_
        refine lv_if_le (tgt := 69) hx hb dX12_eldestOf_23 (by decide) (fun c23 => ?_) (fun c23 => ?_)
        · have h := sat_t c23 h
          refine lv_iinc (v := x4_11 + (-1)) (lv' := [(4, .int (x4_11 + (-1))), (0, .ref a0), (1, .int x1), (2, .int x2), (3, .int x3_11)]) hx hb dX12_eldestOf_69 hl (k := 4) rfl (congrArg (fun z => x4_11 + z) (by decide)) (by decide) rfl (fun ls hl => ?_)
          refine lv_goto (tgt := 11) hx hb dX12_eldestOf_72 (by decide) ?_
          exact ih x3_11 (x4_11 + (-1)) _ h (lv_sub hl [1, 2, 3, 4, 0] rfl)
        · have h := sat_f c23 h
          refine lv_iload_n hx hb dX12_eldestOf_26 rfl (lv_at hl 3 rfl) ?_
          refine lv_bipush (v := (-9)) hx hb dX12_eldestOf_27 (by decide) ?_
          refine lv_icmp_eq (tgt := 66) hx hb dX12_eldestOf_29 (by decide) (fun c29 => ?_) (fun c29 => ?_)
          · have h := sat_t c29 h
            refine lv_iload hx hb dX12_eldestOf_66 (lv_at hl 4 rfl) ?_
            refine lv_istore_n (lv' := [(3, .int x4_11), (0, .ref a0), (1, .int x1), (2, .int x2), (4, .int x4_11)]) hx hb dX12_eldestOf_68 rfl hl (by decide) rfl (fun ls hl => ?_)
            refine lv_iinc (v := x4_11 + (-1)) (lv' := [(4, .int (x4_11 + (-1))), (3, .int x4_11), (0, .ref a0), (1, .int x1), (2, .int x2)]) hx hb dX12_eldestOf_69 hl (k := 4) rfl (congrArg (fun z => x4_11 + z) (by decide)) (by decide) rfl (fun ls hl => ?_)
            refine lv_goto (tgt := 11) hx hb dX12_eldestOf_72 (by decide) ?_
            exact ih x4_11 (x4_11 + (-1)) _ h (lv_sub hl [2, 3, 4, 1, 0] rfl)
          · have h := sat_f c29 h
            refine lv_aload_n hx hb dX12_eldestOf_32 rfl (lv_at hl 0 rfl) ?_
            refine gf_X12_19 hx hb hown hk hP 0 rfl rfl dX12_eldestOf_33 ?_
            refine lv_sipush (v := 406) hx hb dX12_eldestOf_36 (by decide) ?_
            refine lv_iload_n hx hb dX12_eldestOf_39 rfl (lv_at hl 1 rfl) ?_
            refine lv_iload_n hx hb dX12_eldestOf_40 rfl (lv_at hl 2 rfl) ?_
            refine lv_iload hx hb dX12_eldestOf_41 (lv_at hl 4 rfl) ?_
            obtain ⟨r_2, e_2, h⟩ := sat_bind h
            refine cRS (rest := [.int 406, .ref a1]) hx hb hml hown hk (k_X12_guessAt l D cI cZ cK x1 x2 x4_11 r_2 e_2) (me_X12_guessAt hk.2.1) (ms_X12_guessAt hk.2.1) (ml_X12_139 hk.2.1) (hP.sub [] rfl) hl.1 rfl rfl (Nat.le_of_ble_eq_true rfl) ⟨rfl, rfl, Nat.le_of_ble_eq_true rfl, Nat.le_of_ble_eq_true rfl, Nat.zero_le _, Nat.zero_le _⟩ dX12_eldestOf_43 ?_
            refine lv_iadd hx hb dX12_eldestOf_46 ?_
            obtain ⟨hi, h⟩ := sat_in h
            refine va_iald hx hb hk.1 hP 1 0 rfl rfl hi dX12_eldestOf_47 ?_
            refine lv_aload_n hx hb dX12_eldestOf_48 rfl (lv_at hl 0 rfl) ?_
            refine gf_X12_19 hx hb hown hk hP 0 rfl rfl dX12_eldestOf_49 ?_
            refine lv_sipush (v := 406) hx hb dX12_eldestOf_52 (by decide) ?_
            refine lv_iload_n hx hb dX12_eldestOf_55 rfl (lv_at hl 1 rfl) ?_
            refine lv_iload_n hx hb dX12_eldestOf_56 rfl (lv_at hl 2 rfl) ?_
            refine lv_iload_n hx hb dX12_eldestOf_57 rfl (lv_at hl 3 rfl) ?_
            obtain ⟨r_3, e_3, h⟩ := sat_bind h
            refine cRS (rest := [.int 406, .ref a1, .int (m_now (406 + r_2).toNatClampNeg)]) hx hb hml hown hk (k_X12_guessAt l D cI cZ cK x1 x2 x3_11 r_3 e_3) (me_X12_guessAt hk.2.1) (ms_X12_guessAt hk.2.1) (ml_X12_139 hk.2.1) (hP.sub [] rfl) hl.1 rfl rfl (Nat.le_of_ble_eq_true rfl) ⟨rfl, rfl, Nat.le_of_ble_eq_true rfl, Nat.le_of_ble_eq_true rfl, Nat.zero_le _, Nat.zero_le _⟩ dX12_eldestOf_58 ?_
            refine lv_iadd hx hb dX12_eldestOf_61 ?_
            obtain ⟨hi, h⟩ := sat_in h
            refine va_iald hx hb hk.1 hP 1 0 rfl rfl hi dX12_eldestOf_62 ?_
            refine lv_icmp_gt (tgt := 69) hx hb dX12_eldestOf_63 (by decide) (fun c63 => ?_) (fun c63 => ?_)
            · have h := sat_t c63 h
              refine lv_iinc (v := x4_11 + (-1)) (lv' := [(4, .int (x4_11 + (-1))), (0, .ref a0), (1, .int x1), (2, .int x2), (3, .int x3_11)]) hx hb dX12_eldestOf_69 hl (k := 4) rfl (congrArg (fun z => x4_11 + z) (by decide)) (by decide) rfl (fun ls hl => ?_)
              refine lv_goto (tgt := 11) hx hb dX12_eldestOf_72 (by decide) ?_
              exact ih x3_11 (x4_11 + (-1)) _ h (lv_sub hl [1, 2, 3, 4, 0] rfl)
            · have h := sat_f c63 h
              refine lv_iload hx hb dX12_eldestOf_66 (lv_at hl 4 rfl) ?_
              refine lv_istore_n (lv' := [(3, .int x4_11), (0, .ref a0), (1, .int x1), (2, .int x2), (4, .int x4_11)]) hx hb dX12_eldestOf_68 rfl hl (by decide) rfl (fun ls hl => ?_)
              refine lv_iinc (v := x4_11 + (-1)) (lv' := [(4, .int (x4_11 + (-1))), (3, .int x4_11), (0, .ref a0), (1, .int x1), (2, .int x2)]) hx hb dX12_eldestOf_69 hl (k := 4) rfl (congrArg (fun z => x4_11 + z) (by decide)) (by decide) rfl (fun ls hl => ?_)
              refine lv_goto (tgt := 11) hx hb dX12_eldestOf_72 (by decide) ?_
              exact ih x4_11 (x4_11 + (-1)) _ h (lv_sub hl [2, 3, 4, 1, 0] rfl)
  exact L11 N (-9) (m_nodes - 1) _ h (lv_sub hl [2, 3, 4, 1, 0] rfl)
def f_X12_remembers_L2 (m_now : ar) (m_undoAt : Int32) : Nat → Int32 → ar → Option (ar)
  | 0, _, _ => none
  | n + 1, x1_2, m_undos_2 => if 622 ≤ x1_2 then some m_undos_2 else ck (inb x1_2 622) (ck (inb ((622 * m_undoAt) + x1_2) 4976) (f_X12_remembers_L2 m_now m_undoAt n (x1_2 + 1) (upd m_undos_2 ((622 * m_undoAt) + x1_2).toNatClampNeg (m_now x1_2.toNatClampNeg))))
def f_X12_remembers (N : Nat) (m_now : ar) (m_undoMany : Int32) (m_undoAt : Int32) (m_undos : ar) : Option (Int32 × Int32 × ar) := Option.bind (f_X12_remembers_L2 m_now m_undoAt N 0 m_undos) fun s2 => if 8 ≤ m_undoMany then some (m_undoMany + 0, (m_undoAt + 1) - (m_undoAt + 1) / 8 * 8, s2) else some (m_undoMany + 1, (m_undoAt + 1) - (m_undoAt + 1) / 8 * 8, s2)
abbrev rm_X12_remembers : Room := { frames := 0, cells := 0, slots := 0, locals := 0 }
set_option maxRecDepth 100000 in
set_option maxHeartbeats 4000000 in
theorem k_X12_remembers (l : Launch) (D : va_G) (cI cZ cK : ClassId) (N : Nat) (a0 a1 a2 a3 a4 a5 a6 a7 a8 a9 a10 a11 : Nat) (m_nodes : Int32) (m_every : Int32) (m_halves : Int32) (m_age : Int32) (m_life : Int32) (m_first : Int32) (m_undoMany : Int32) (m_undoAt : Int32) (m_letterMany : Int32) (m_readAt : Int32) (m_tokenAt : Int32) (m_token : Int32) (m_newNodes : Int32) (m_newEvery : Int32) (m_newHalves : Int32) (m_newAge : Int32) (m_newLife : Int32) (m_newFirst : Int32) (m_newLinks : Int32) (m_pathMany : Int32) (m_pathDelay : Int32) (m_seenMany : Int32) (m_now : ar) (m_undos : ar) (R : Int32 × Int32 × ar) (h : f_X12_remembers N m_now m_undoMany m_undoAt m_undos = some R) : Mu l D cI cZ cK yX12_remembers cX12_remembers 2 none rm_X12_remembers [.ref a0] [(a0, .inr (12, [.int m_nodes, .int m_every, .int m_halves, .int m_age, .int m_life, .int m_first, .ref a1, .int m_undoMany, .int m_undoAt, .ref a2, .ref a3, .ref a4, .int m_letterMany, .ref a5, .int m_readAt, .int m_tokenAt, .int m_token, .int m_newNodes, .int m_newEvery, .int m_newHalves, .int m_newAge, .int m_newLife, .int m_newFirst, .int m_newLinks, .ref a6, .int m_pathMany, .int m_pathDelay, .ref a7, .ref a8, .int m_seenMany, .ref a9, .ref a10, .ref a11])), (a1, .inl (cI, 622, .inl m_now)), (a2, .inl (cI, 4976, .inl m_undos))] none [(a0, .inr (12, [.int m_nodes, .int m_every, .int m_halves, .int m_age, .int m_life, .int m_first, .ref a1, .int R.1, .int R.2.1, .ref a2, .ref a3, .ref a4, .int m_letterMany, .ref a5, .int m_readAt, .int m_tokenAt, .int m_token, .int m_newNodes, .int m_newEvery, .int m_newHalves, .int m_newAge, .int m_newLife, .int m_newFirst, .int m_newLinks, .ref a6, .int m_pathMany, .int m_pathDelay, .ref a7, .ref a8, .int m_seenMany, .ref a9, .ref a10, .ref a11])), (a1, .inl (cI, 622, .inl m_now)), (a2, .inl (cI, 4976, .inl R.2.2))] := by
  refine mv_of (by decide) (Nat.le_of_ble_eq_true rfl) ?_
  intro p e s m args below meth c Q A ls hx hb hml hown hk hA w hret hl
  have hl : lv_has ls 2 [(0, .ref a0)] := hl
  obtain ⟨C0, hC0, h⟩ := sat_top h
  unfold f_X12_remembers at h
  refine lv_iconst (v := 0) hx hb dX12_remembers_0 (by decide) ?_
  refine lv_istore_n (lv' := [(1, .int 0), (0, .ref a0)]) hx hb dX12_remembers_1 rfl hl (by decide) rfl (fun ls hl => ?_)
  obtain ⟨T2, hT2, h⟩ := sat_reg h
  have E2 : ∀ (m_undos_1 : ar) (H : Heap) (locs : List Loc) (ls : Array Slot), T2 m_undos_1 → wd D A s.heap H locs [(a0, .inr (12, [.int m_nodes, .int m_every, .int m_halves, .int m_age, .int m_life, .int m_first, .ref a1, .int m_undoMany, .int m_undoAt, .ref a2, .ref a3, .ref a4, .int m_letterMany, .ref a5, .int m_readAt, .int m_tokenAt, .int m_token, .int m_newNodes, .int m_newEvery, .int m_newHalves, .int m_newAge, .int m_newLife, .int m_newFirst, .int m_newLinks, .ref a6, .int m_pathMany, .int m_pathDelay, .ref a7, .ref a8, .int m_seenMany, .ref a9, .ref a10, .ref a11])), (a1, .inl (cI, 622, .inl m_now)), (a2, .inl (cI, 4976, .inl m_undos_1))] → lv_has ls 2 [(0, .ref a0)] → W p l e rm_X12_remembers s m args below meth c H locs 0 0 Q (F0 m 36 ls []) := by
    intro m_undos_1 H locs ls h w hl
    have h := hT2 _ h
    refine lv_aload_n hx hb dX12_remembers_36 rfl (lv_at hl 0 rfl) ?_
    refine lv_aload_n hx hb dX12_remembers_37 rfl (lv_at hl 0 rfl) ?_
    refine gf_X12_149 hx hb hown hk w.1 0 rfl rfl dX12_remembers_38 ?_
    refine lv_iconst (v := 1) hx hb dX12_remembers_41 (by decide) ?_
    refine lv_iadd hx hb dX12_remembers_42 ?_
    refine lv_bipush (v := 8) hx hb dX12_remembers_43 (by decide) ?_
    refine lv_irem hx hb dX12_remembers_45 (by decide) ?_
    refine pf_X12_149 (ws' := [(a0, .inr (12, [.int m_nodes, .int m_every, .int m_halves, .int m_age, .int m_life, .int m_first, .ref a1, .int m_undoMany, .int ((m_undoAt + 1) - (m_undoAt + 1) / 8 * 8), .ref a2, .ref a3, .ref a4, .int m_letterMany, .ref a5, .int m_readAt, .int m_tokenAt, .int m_token, .int m_newNodes, .int m_newEvery, .int m_newHalves, .int m_newAge, .int m_newLife, .int m_newFirst, .int m_newLinks, .ref a6, .int m_pathMany, .int m_pathDelay, .ref a7, .ref a8, .int m_seenMany, .ref a9, .ref a10, .ref a11])), (a1, .inl (cI, 622, .inl m_now)), (a2, .inl (cI, 4976, .inl m_undos_1))]) hx hb hown hk w 0 rfl (Nat.le_of_ble_eq_true rfl) rfl dX12_remembers_46 (fun H locs w => ?_)
    refine lv_aload_n hx hb dX12_remembers_49 rfl (lv_at hl 0 rfl) ?_
    refine lv_dup hx hb dX12_remembers_50 rfl ?_
    refine gf_X12_129 hx hb hown hk w.1 0 rfl rfl dX12_remembers_51 ?_
    refine lv_aload_n hx hb dX12_remembers_54 rfl (lv_at hl 0 rfl) ?_
    refine gf_X12_129 hx hb hown hk w.1 0 rfl rfl dX12_remembers_55 ?_
    refine lv_bipush (v := 8) hx hb dX12_remembers_58 (by decide) ?_
    refine lv_icmp_ge (tgt := 67) hx hb dX12_remembers_60 (by decide) (fun c60 => ?_) (fun c60 => ?_)
    · have h := sat_t c60 h
      refine lv_iconst (v := 0) hx hb dX12_remembers_67 (by decide) ?_
      refine lv_iadd hx hb dX12_remembers_68 ?_
      refine pf_X12_129 (ws' := [(a0, .inr (12, [.int m_nodes, .int m_every, .int m_halves, .int m_age, .int m_life, .int m_first, .ref a1, .int (m_undoMany + 0), .int ((m_undoAt + 1) - (m_undoAt + 1) / 8 * 8), .ref a2, .ref a3, .ref a4, .int m_letterMany, .ref a5, .int m_readAt, .int m_tokenAt, .int m_token, .int m_newNodes, .int m_newEvery, .int m_newHalves, .int m_newAge, .int m_newLife, .int m_newFirst, .int m_newLinks, .ref a6, .int m_pathMany, .int m_pathDelay, .ref a7, .ref a8, .int m_seenMany, .ref a9, .ref a10, .ref a11])), (a1, .inl (cI, 622, .inl m_now)), (a2, .inl (cI, 4976, .inl m_undos_1))]) hx hb hown hk w 0 rfl (Nat.le_of_ble_eq_true rfl) rfl dX12_remembers_69 (fun H locs w => ?_)
      have hR := hC0 _ (sat_some h)
      subst hR
      exact hret _ _ _ _ w dX12_remembers_72
    · have h := sat_f c60 h
      refine lv_iconst (v := 1) hx hb dX12_remembers_63 (by decide) ?_
      refine lv_goto (tgt := 68) hx hb dX12_remembers_64 (by decide) ?_
      refine lv_iadd hx hb dX12_remembers_68 ?_
      refine pf_X12_129 (ws' := [(a0, .inr (12, [.int m_nodes, .int m_every, .int m_halves, .int m_age, .int m_life, .int m_first, .ref a1, .int (m_undoMany + 1), .int ((m_undoAt + 1) - (m_undoAt + 1) / 8 * 8), .ref a2, .ref a3, .ref a4, .int m_letterMany, .ref a5, .int m_readAt, .int m_tokenAt, .int m_token, .int m_newNodes, .int m_newEvery, .int m_newHalves, .int m_newAge, .int m_newLife, .int m_newFirst, .int m_newLinks, .ref a6, .int m_pathMany, .int m_pathDelay, .ref a7, .ref a8, .int m_seenMany, .ref a9, .ref a10, .ref a11])), (a1, .inl (cI, 622, .inl m_now)), (a2, .inl (cI, 4976, .inl m_undos_1))]) hx hb hown hk w 0 rfl (Nat.le_of_ble_eq_true rfl) rfl dX12_remembers_69 (fun H locs w => ?_)
      have hR := hC0 _ (sat_some h)
      subst hR
      exact hret _ _ _ _ w dX12_remembers_72
  have L2 : ∀ (n : Nat) (x1_2 : Int32) (m_undos_2 : ar) (H : Heap) (locs : List Loc) (ls : Array Slot), sat (f_X12_remembers_L2 m_now m_undoAt n x1_2 m_undos_2) T2 → wd D A s.heap H locs [(a0, .inr (12, [.int m_nodes, .int m_every, .int m_halves, .int m_age, .int m_life, .int m_first, .ref a1, .int m_undoMany, .int m_undoAt, .ref a2, .ref a3, .ref a4, .int m_letterMany, .ref a5, .int m_readAt, .int m_tokenAt, .int m_token, .int m_newNodes, .int m_newEvery, .int m_newHalves, .int m_newAge, .int m_newLife, .int m_newFirst, .int m_newLinks, .ref a6, .int m_pathMany, .int m_pathDelay, .ref a7, .ref a8, .int m_seenMany, .ref a9, .ref a10, .ref a11])), (a1, .inl (cI, 622, .inl m_now)), (a2, .inl (cI, 4976, .inl m_undos_2))] → lv_has ls 2 [(0, .ref a0), (1, .int x1_2)] → W p l e rm_X12_remembers s m args below meth c H locs 0 0 Q (F0 m 2 ls []) := by
    intro n
    induction n with
    | zero =>
      intro x1_2 m_undos_2 H locs ls h
      rw [f_X12_remembers_L2] at h
      exact (sat_none h).elim
    | succ n ih =>
      intro x1_2 m_undos_2 H locs ls h w hl
      rw [f_X12_remembers_L2] at h
      refine lv_iload_n hx hb dX12_remembers_2 rfl (lv_at hl 1 rfl) ?_
      refine lv_sipush (v := 622) hx hb dX12_remembers_3 (by decide) ?_
      refine lv_icmp_ge (tgt := 36) hx hb dX12_remembers_6 (by decide) (fun c6 => ?_) (fun c6 => ?_)
      · have h := sat_t c6 h
        exact E2 m_undos_2 _ _ _ (sat_some h) w (lv_sub hl [0] rfl)
      · have h := sat_f c6 h
        refine lv_aload_n hx hb dX12_remembers_9 rfl (lv_at hl 0 rfl) ?_
        refine gf_X12_23 hx hb hown hk w.1 0 rfl rfl dX12_remembers_10 ?_
        refine lv_sipush (v := 622) hx hb dX12_remembers_13 (by decide) ?_
        refine lv_aload_n hx hb dX12_remembers_16 rfl (lv_at hl 0 rfl) ?_
        refine gf_X12_149 hx hb hown hk w.1 0 rfl rfl dX12_remembers_17 ?_
        refine lv_imul hx hb dX12_remembers_20 ?_
        refine lv_iload_n hx hb dX12_remembers_21 rfl (lv_at hl 1 rfl) ?_
        refine lv_iadd hx hb dX12_remembers_22 ?_
        refine lv_aload_n hx hb dX12_remembers_23 rfl (lv_at hl 0 rfl) ?_
        refine gf_X12_19 hx hb hown hk w.1 0 rfl rfl dX12_remembers_24 ?_
        refine lv_iload_n hx hb dX12_remembers_27 rfl (lv_at hl 1 rfl) ?_
        obtain ⟨hi, h⟩ := sat_in h
        refine va_iald hx hb hk.1 w.1 1 0 rfl rfl hi dX12_remembers_28 ?_
        obtain ⟨hi, h⟩ := sat_in h
        refine ra_ist (ws' := [(a0, .inr (12, [.int m_nodes, .int m_every, .int m_halves, .int m_age, .int m_life, .int m_first, .ref a1, .int m_undoMany, .int m_undoAt, .ref a2, .ref a3, .ref a4, .int m_letterMany, .ref a5, .int m_readAt, .int m_tokenAt, .int m_token, .int m_newNodes, .int m_newEvery, .int m_newHalves, .int m_newAge, .int m_newLife, .int m_newFirst, .int m_newLinks, .ref a6, .int m_pathMany, .int m_pathDelay, .ref a7, .ref a8, .int m_seenMany, .ref a9, .ref a10, .ref a11])), (a1, .inl (cI, 622, .inl m_now)), (a2, .inl (cI, 4976, .inl (upd m_undos_2 ((622 * m_undoAt) + x1_2).toNatClampNeg (m_now x1_2.toNatClampNeg))))]) hx hb hk w 2 rfl hi rfl dX12_remembers_29 (fun H locs w => ?_)
        refine lv_iinc (v := x1_2 + 1) (lv' := [(1, .int (x1_2 + 1)), (0, .ref a0)]) hx hb dX12_remembers_30 hl (k := 1) rfl (congrArg (fun z => x1_2 + z) (by decide)) (by decide) rfl (fun ls hl => ?_)
        refine lv_goto (tgt := 2) hx hb dX12_remembers_33 (by decide) ?_
        exact ih (x1_2 + 1) (upd m_undos_2 ((622 * m_undoAt) + x1_2).toNatClampNeg (m_now x1_2.toNatClampNeg)) _ _ _ h w (lv_sub hl [1, 0] rfl)
  exact L2 N 0 m_undos _ _ _ h w (lv_sub hl [1, 0] rfl)
def f_X12_hops (N : Nat) (m_nodes : Int32) (m_every : Int32) (m_halves : Int32) (m_age : Int32) (m_first : Int32) (m_now : ar) (x1 : Int32) (x2 : Int32) : Option (Int32 × ar) := ck (inb (106 + x1) 622) (ck (inb (106 + x1) 622) (Option.bind (α := Int32) (if m_every ≤ 0 then some 0 else ck (inb (106 + x1) 622) (ck (nz m_every) (if (((upd m_now (106 + x1).toNatClampNeg ((m_now (106 + x1).toNatClampNeg) + 1)) (106 + x1).toNatClampNeg) - ((upd m_now (106 + x1).toNatClampNeg ((m_now (106 + x1).toNatClampNeg) + 1)) (106 + x1).toNatClampNeg) / m_every * m_every) = 0 then some 1 else some 0))) fun j17 => ck (inb (112 + x1) 622) (Option.bind (α := Int32) (if j17 = 0 then some 0 else some 1) fun j54 => ck (inb (112 + x1) 622) (Option.bind (α := Int32) (if j17 = 0 then Option.bind (f_X12_bestOf N m_nodes m_age m_first (upd (upd m_now (106 + x1).toNatClampNeg ((m_now (106 + x1).toNatClampNeg) + 1)) (112 + x1).toNatClampNeg (((upd m_now (106 + x1).toNatClampNeg ((m_now (106 + x1).toNatClampNeg) + 1)) (112 + x1).toNatClampNeg) + j54)) x1 x2) fun r_12 => some r_12 else Option.bind (f_X12_eldestOf N m_nodes (upd (upd m_now (106 + x1).toNatClampNeg ((m_now (106 + x1).toNatClampNeg) + 1)) (112 + x1).toNatClampNeg (((upd m_now (106 + x1).toNatClampNeg ((m_now (106 + x1).toNatClampNeg) + 1)) (112 + x1).toNatClampNeg) + j54)) x1 x2) fun r_13 => some r_13) fun j65 => ck (inb 0 622) (ck (inb 0 622) (Option.bind (f_X12_pair x1 j65) fun r_4 => ck (inb (154 + r_4) 622) (ck (inb (154 + r_4) 622) (Option.bind (f_X12_delay (upd (upd (upd (upd m_now (106 + x1).toNatClampNeg ((m_now (106 + x1).toNatClampNeg) + 1)) (112 + x1).toNatClampNeg (((upd m_now (106 + x1).toNatClampNeg ((m_now (106 + x1).toNatClampNeg) + 1)) (112 + x1).toNatClampNeg) + j54)) (0 : Int32).toNatClampNeg (((upd (upd m_now (106 + x1).toNatClampNeg ((m_now (106 + x1).toNatClampNeg) + 1)) (112 + x1).toNatClampNeg (((upd m_now (106 + x1).toNatClampNeg ((m_now (106 + x1).toNatClampNeg) + 1)) (112 + x1).toNatClampNeg) + j54)) (0 : Int32).toNatClampNeg) + 1)) (154 + r_4).toNatClampNeg (((upd (upd (upd m_now (106 + x1).toNatClampNeg ((m_now (106 + x1).toNatClampNeg) + 1)) (112 + x1).toNatClampNeg (((upd m_now (106 + x1).toNatClampNeg ((m_now (106 + x1).toNatClampNeg) + 1)) (112 + x1).toNatClampNeg) + j54)) (0 : Int32).toNatClampNeg (((upd (upd m_now (106 + x1).toNatClampNeg ((m_now (106 + x1).toNatClampNeg) + 1)) (112 + x1).toNatClampNeg (((upd m_now (106 + x1).toNatClampNeg ((m_now (106 + x1).toNatClampNeg) + 1)) (112 + x1).toNatClampNeg) + j54)) (0 : Int32).toNatClampNeg) + 1)) (154 + r_4).toNatClampNeg) + 1)) x1 j65) fun r_5 => Option.bind (α := Int32 × ar) (if j65 = x2 then some (64 * r_5, upd (upd (upd (upd m_now (106 + x1).toNatClampNeg ((m_now (106 + x1).toNatClampNeg) + 1)) (112 + x1).toNatClampNeg (((upd m_now (106 + x1).toNatClampNeg ((m_now (106 + x1).toNatClampNeg) + 1)) (112 + x1).toNatClampNeg) + j54)) (0 : Int32).toNatClampNeg (((upd (upd m_now (106 + x1).toNatClampNeg ((m_now (106 + x1).toNatClampNeg) + 1)) (112 + x1).toNatClampNeg (((upd m_now (106 + x1).toNatClampNeg ((m_now (106 + x1).toNatClampNeg) + 1)) (112 + x1).toNatClampNeg) + j54)) (0 : Int32).toNatClampNeg) + 1)) (154 + r_4).toNatClampNeg (((upd (upd (upd m_now (106 + x1).toNatClampNeg ((m_now (106 + x1).toNatClampNeg) + 1)) (112 + x1).toNatClampNeg (((upd m_now (106 + x1).toNatClampNeg ((m_now (106 + x1).toNatClampNeg) + 1)) (112 + x1).toNatClampNeg) + j54)) (0 : Int32).toNatClampNeg (((upd (upd m_now (106 + x1).toNatClampNeg ((m_now (106 + x1).toNatClampNeg) + 1)) (112 + x1).toNatClampNeg (((upd m_now (106 + x1).toNatClampNeg ((m_now (106 + x1).toNatClampNeg) + 1)) (112 + x1).toNatClampNeg) + j54)) (0 : Int32).toNatClampNeg) + 1)) (154 + r_4).toNatClampNeg) + 1)) else Option.bind (f_X12_bestOf N m_nodes m_age m_first (upd (upd (upd (upd m_now (106 + x1).toNatClampNeg ((m_now (106 + x1).toNatClampNeg) + 1)) (112 + x1).toNatClampNeg (((upd m_now (106 + x1).toNatClampNeg ((m_now (106 + x1).toNatClampNeg) + 1)) (112 + x1).toNatClampNeg) + j54)) (0 : Int32).toNatClampNeg (((upd (upd m_now (106 + x1).toNatClampNeg ((m_now (106 + x1).toNatClampNeg) + 1)) (112 + x1).toNatClampNeg (((upd m_now (106 + x1).toNatClampNeg ((m_now (106 + x1).toNatClampNeg) + 1)) (112 + x1).toNatClampNeg) + j54)) (0 : Int32).toNatClampNeg) + 1)) (154 + r_4).toNatClampNeg (((upd (upd (upd m_now (106 + x1).toNatClampNeg ((m_now (106 + x1).toNatClampNeg) + 1)) (112 + x1).toNatClampNeg (((upd m_now (106 + x1).toNatClampNeg ((m_now (106 + x1).toNatClampNeg) + 1)) (112 + x1).toNatClampNeg) + j54)) (0 : Int32).toNatClampNeg (((upd (upd m_now (106 + x1).toNatClampNeg ((m_now (106 + x1).toNatClampNeg) + 1)) (112 + x1).toNatClampNeg (((upd m_now (106 + x1).toNatClampNeg ((m_now (106 + x1).toNatClampNeg) + 1)) (112 + x1).toNatClampNeg) + j54)) (0 : Int32).toNatClampNeg) + 1)) (154 + r_4).toNatClampNeg) + 1)) j65 x2) fun r_10 => Option.bind (f_X12_guessNow m_age m_first (upd (upd (upd (upd m_now (106 + x1).toNatClampNeg ((m_now (106 + x1).toNatClampNeg) + 1)) (112 + x1).toNatClampNeg (((upd m_now (106 + x1).toNatClampNeg ((m_now (106 + x1).toNatClampNeg) + 1)) (112 + x1).toNatClampNeg) + j54)) (0 : Int32).toNatClampNeg (((upd (upd m_now (106 + x1).toNatClampNeg ((m_now (106 + x1).toNatClampNeg) + 1)) (112 + x1).toNatClampNeg (((upd m_now (106 + x1).toNatClampNeg ((m_now (106 + x1).toNatClampNeg) + 1)) (112 + x1).toNatClampNeg) + j54)) (0 : Int32).toNatClampNeg) + 1)) (154 + r_4).toNatClampNeg (((upd (upd (upd m_now (106 + x1).toNatClampNeg ((m_now (106 + x1).toNatClampNeg) + 1)) (112 + x1).toNatClampNeg (((upd m_now (106 + x1).toNatClampNeg ((m_now (106 + x1).toNatClampNeg) + 1)) (112 + x1).toNatClampNeg) + j54)) (0 : Int32).toNatClampNeg (((upd (upd m_now (106 + x1).toNatClampNeg ((m_now (106 + x1).toNatClampNeg) + 1)) (112 + x1).toNatClampNeg (((upd m_now (106 + x1).toNatClampNeg ((m_now (106 + x1).toNatClampNeg) + 1)) (112 + x1).toNatClampNeg) + j54)) (0 : Int32).toNatClampNeg) + 1)) (154 + r_4).toNatClampNeg) + 1)) j65 x2 r_10) fun r_11 => some ((64 * r_5) + r_11, upd (upd (upd (upd m_now (106 + x1).toNatClampNeg ((m_now (106 + x1).toNatClampNeg) + 1)) (112 + x1).toNatClampNeg (((upd m_now (106 + x1).toNatClampNeg ((m_now (106 + x1).toNatClampNeg) + 1)) (112 + x1).toNatClampNeg) + j54)) (0 : Int32).toNatClampNeg (((upd (upd m_now (106 + x1).toNatClampNeg ((m_now (106 + x1).toNatClampNeg) + 1)) (112 + x1).toNatClampNeg (((upd m_now (106 + x1).toNatClampNeg ((m_now (106 + x1).toNatClampNeg) + 1)) (112 + x1).toNatClampNeg) + j54)) (0 : Int32).toNatClampNeg) + 1)) (154 + r_4).toNatClampNeg (((upd (upd (upd m_now (106 + x1).toNatClampNeg ((m_now (106 + x1).toNatClampNeg) + 1)) (112 + x1).toNatClampNeg (((upd m_now (106 + x1).toNatClampNeg ((m_now (106 + x1).toNatClampNeg) + 1)) (112 + x1).toNatClampNeg) + j54)) (0 : Int32).toNatClampNeg (((upd (upd m_now (106 + x1).toNatClampNeg ((m_now (106 + x1).toNatClampNeg) + 1)) (112 + x1).toNatClampNeg (((upd m_now (106 + x1).toNatClampNeg ((m_now (106 + x1).toNatClampNeg) + 1)) (112 + x1).toNatClampNeg) + j54)) (0 : Int32).toNatClampNeg) + 1)) (154 + r_4).toNatClampNeg) + 1))) fun j129 => Option.bind (f_X12_guessNow m_age m_first j129.2 x1 x2 j65) fun r_8 => Option.bind (f_X12_guessAt x1 x2 j65) fun r_9 => if (r_8 + ((j129.1 - r_8) >>> (m_halves &&& 31))) ≤ 63936 then ck (inb (190 + r_9) 622) (ck (inb 0 622) (ck (inb (406 + r_9) 622) (some (j65, upd (upd j129.2 (190 + r_9).toNatClampNeg (r_8 + ((j129.1 - r_8) >>> (m_halves &&& 31)))) (406 + r_9).toNatClampNeg ((upd j129.2 (190 + r_9).toNatClampNeg (r_8 + ((j129.1 - r_8) >>> (m_halves &&& 31)))) (0 : Int32).toNatClampNeg))))) else ck (inb (190 + r_9) 622) (ck (inb 0 622) (ck (inb (406 + r_9) 622) (some (j65, upd (upd j129.2 (190 + r_9).toNatClampNeg 63936) (406 + r_9).toNatClampNeg ((upd j129.2 (190 + r_9).toNatClampNeg 63936) (0 : Int32).toNatClampNeg)))))))))))))
abbrev rm_X12_hops : Room := { frames := 3, cells := 0, slots := 0, locals := 71 }
set_option maxRecDepth 100000 in
set_option maxHeartbeats 4000000 in
theorem k_X12_hops (l : Launch) (D : va_G) (cI cZ cK : ClassId) (N : Nat) (a0 a1 a2 a3 a4 a5 a6 a7 a8 a9 a10 a11 : Nat) (m_nodes : Int32) (m_every : Int32) (m_halves : Int32) (m_age : Int32) (m_life : Int32) (m_first : Int32) (m_undoMany : Int32) (m_undoAt : Int32) (m_letterMany : Int32) (m_readAt : Int32) (m_tokenAt : Int32) (m_token : Int32) (m_newNodes : Int32) (m_newEvery : Int32) (m_newHalves : Int32) (m_newAge : Int32) (m_newLife : Int32) (m_newFirst : Int32) (m_newLinks : Int32) (m_pathMany : Int32) (m_pathDelay : Int32) (m_seenMany : Int32) (m_now : ar) (x1 : Int32) (x2 : Int32) (R : Int32 × ar) (h : f_X12_hops N m_nodes m_every m_halves m_age m_first m_now x1 x2 = some R) : Mu l D cI cZ cK yX12_hops cX12_hops 9 (some .int) rm_X12_hops [.ref a0, .int x1, .int x2] [(a0, .inr (12, [.int m_nodes, .int m_every, .int m_halves, .int m_age, .int m_life, .int m_first, .ref a1, .int m_undoMany, .int m_undoAt, .ref a2, .ref a3, .ref a4, .int m_letterMany, .ref a5, .int m_readAt, .int m_tokenAt, .int m_token, .int m_newNodes, .int m_newEvery, .int m_newHalves, .int m_newAge, .int m_newLife, .int m_newFirst, .int m_newLinks, .ref a6, .int m_pathMany, .int m_pathDelay, .ref a7, .ref a8, .int m_seenMany, .ref a9, .ref a10, .ref a11])), (a1, .inl (cI, 622, .inl m_now))] (some (.int R.1)) [(a0, .inr (12, [.int m_nodes, .int m_every, .int m_halves, .int m_age, .int m_life, .int m_first, .ref a1, .int m_undoMany, .int m_undoAt, .ref a2, .ref a3, .ref a4, .int m_letterMany, .ref a5, .int m_readAt, .int m_tokenAt, .int m_token, .int m_newNodes, .int m_newEvery, .int m_newHalves, .int m_newAge, .int m_newLife, .int m_newFirst, .int m_newLinks, .ref a6, .int m_pathMany, .int m_pathDelay, .ref a7, .ref a8, .int m_seenMany, .ref a9, .ref a10, .ref a11])), (a1, .inl (cI, 622, .inl R.2))] := by
  refine mi_of (by decide) (vp_nar_int _) (Nat.le_of_ble_eq_true rfl) ?_
  intro p e s m args below meth c Q A ls hx hb hml hown hk hA w hret hl
  have hl : lv_has ls 9 [(0, .ref a0), (1, .int x1), (2, .int x2)] := hl
  obtain ⟨C0, hC0, h⟩ := sat_top h
  unfold f_X12_hops at h
  refine lv_aload_n hx hb dX12_hops_0 rfl (lv_at hl 0 rfl) ?_
  refine gf_X12_19 hx hb hown hk w.1 0 rfl rfl dX12_hops_1 ?_
  refine lv_bipush (v := 106) hx hb dX12_hops_4 (by decide) ?_
  refine lv_iload_n hx hb dX12_hops_6 rfl (lv_at hl 1 rfl) ?_
  refine lv_iadd hx hb dX12_hops_7 ?_
  refine lv_dup2_11 hx hb dX12_hops_8 rfl rfl ?_
  obtain ⟨hi, h⟩ := sat_in h
  refine va_iald hx hb hk.1 w.1 1 0 rfl rfl hi dX12_hops_9 ?_
  refine lv_iconst (v := 1) hx hb dX12_hops_10 (by decide) ?_
  refine lv_iadd hx hb dX12_hops_11 ?_
  obtain ⟨hi, h⟩ := sat_in h
  refine ra_ist (ws' := [(a0, .inr (12, [.int m_nodes, .int m_every, .int m_halves, .int m_age, .int m_life, .int m_first, .ref a1, .int m_undoMany, .int m_undoAt, .ref a2, .ref a3, .ref a4, .int m_letterMany, .ref a5, .int m_readAt, .int m_tokenAt, .int m_token, .int m_newNodes, .int m_newEvery, .int m_newHalves, .int m_newAge, .int m_newLife, .int m_newFirst, .int m_newLinks, .ref a6, .int m_pathMany, .int m_pathDelay, .ref a7, .ref a8, .int m_seenMany, .ref a9, .ref a10, .ref a11])), (a1, .inl (cI, 622, .inl (upd m_now (106 + x1).toNatClampNeg ((m_now (106 + x1).toNatClampNeg) + 1))))]) hx hb hk w 1 rfl hi rfl dX12_hops_12 (fun H locs w => ?_)
  refine lv_aload_n hx hb dX12_hops_13 rfl (lv_at hl 0 rfl) ?_
  refine gf_X12_120 hx hb hown hk w.1 0 rfl rfl dX12_hops_14 ?_
  obtain ⟨T17, hT17, h⟩ := sat_reg h
  have J17 : ∀ (j_1 : Int32) (H : Heap) (locs : List Loc) (ls : Array Slot), T17 j_1 → wd D A s.heap H locs [(a0, .inr (12, [.int m_nodes, .int m_every, .int m_halves, .int m_age, .int m_life, .int m_first, .ref a1, .int m_undoMany, .int m_undoAt, .ref a2, .ref a3, .ref a4, .int m_letterMany, .ref a5, .int m_readAt, .int m_tokenAt, .int m_token, .int m_newNodes, .int m_newEvery, .int m_newHalves, .int m_newAge, .int m_newLife, .int m_newFirst, .int m_newLinks, .ref a6, .int m_pathMany, .int m_pathDelay, .ref a7, .ref a8, .int m_seenMany, .ref a9, .ref a10, .ref a11])), (a1, .inl (cI, 622, .inl (upd m_now (106 + x1).toNatClampNeg ((m_now (106 + x1).toNatClampNeg) + 1))))] → lv_has ls 9 [(0, .ref a0), (1, .int x1), (2, .int x2)] → W p l e rm_X12_hops s m args below meth c H locs 0 0 Q (F0 m 42 ls [.int j_1]) := by
    intro j_1 H locs ls h w hl
    have h := hT17 _ h
    refine lv_istore_n (lv' := [(3, .int j_1), (0, .ref a0), (1, .int x1), (2, .int x2)]) hx hb dX12_hops_42 rfl hl (by decide) rfl (fun ls hl => ?_)
    refine lv_aload_n hx hb dX12_hops_43 rfl (lv_at hl 1 rfl) ?_
    refine gf_X12_19 hx hb hown hk w.1 0 rfl rfl dX12_hops_44 ?_
    refine lv_bipush (v := 112) hx hb dX12_hops_47 (by decide) ?_
    refine lv_iload_n hx hb dX12_hops_49 rfl (lv_at hl 2 rfl) ?_
    refine lv_iadd hx hb dX12_hops_50 ?_
    refine lv_dup2_11 hx hb dX12_hops_51 rfl rfl ?_
    obtain ⟨hi, h⟩ := sat_in h
    refine va_iald hx hb hk.1 w.1 1 0 rfl rfl hi dX12_hops_52 ?_
    refine lv_iload_n hx hb dX12_hops_53 rfl (lv_at hl 0 rfl) ?_
    obtain ⟨T54, hT54, h⟩ := sat_reg h
    have J54 : ∀ (j_2 : Int32) (H : Heap) (locs : List Loc) (ls : Array Slot), T54 j_2 → wd D A s.heap H locs [(a0, .inr (12, [.int m_nodes, .int m_every, .int m_halves, .int m_age, .int m_life, .int m_first, .ref a1, .int m_undoMany, .int m_undoAt, .ref a2, .ref a3, .ref a4, .int m_letterMany, .ref a5, .int m_readAt, .int m_tokenAt, .int m_token, .int m_newNodes, .int m_newEvery, .int m_newHalves, .int m_newAge, .int m_newLife, .int m_newFirst, .int m_newLinks, .ref a6, .int m_pathMany, .int m_pathDelay, .ref a7, .ref a8, .int m_seenMany, .ref a9, .ref a10, .ref a11])), (a1, .inl (cI, 622, .inl (upd m_now (106 + x1).toNatClampNeg ((m_now (106 + x1).toNatClampNeg) + 1))))] → lv_has ls 9 [(0, .ref a0), (1, .int x1), (2, .int x2), (3, .int j_1)] → W p l e rm_X12_hops s m args below meth c H locs 0 0 Q (F0 m 62 ls [.int j_2, .int ((upd m_now (106 + x1).toNatClampNeg ((m_now (106 + x1).toNatClampNeg) + 1)) (112 + x1).toNatClampNeg), .int (112 + x1), .ref a1]) := by
      intro j_2 H locs ls h w hl
      have h := hT54 _ h
      refine lv_iadd hx hb dX12_hops_62 ?_
      obtain ⟨hi, h⟩ := sat_in h
      refine ra_ist (ws' := [(a0, .inr (12, [.int m_nodes, .int m_every, .int m_halves, .int m_age, .int m_life, .int m_first, .ref a1, .int m_undoMany, .int m_undoAt, .ref a2, .ref a3, .ref a4, .int m_letterMany, .ref a5, .int m_readAt, .int m_tokenAt, .int m_token, .int m_newNodes, .int m_newEvery, .int m_newHalves, .int m_newAge, .int m_newLife, .int m_newFirst, .int m_newLinks, .ref a6, .int m_pathMany, .int m_pathDelay, .ref a7, .ref a8, .int m_seenMany, .ref a9, .ref a10, .ref a11])), (a1, .inl (cI, 622, .inl (upd (upd m_now (106 + x1).toNatClampNeg ((m_now (106 + x1).toNatClampNeg) + 1)) (112 + x1).toNatClampNeg (((upd m_now (106 + x1).toNatClampNeg ((m_now (106 + x1).toNatClampNeg) + 1)) (112 + x1).toNatClampNeg) + j_2))))]) hx hb hk w 1 rfl hi rfl dX12_hops_63 (fun H locs w => ?_)
      refine lv_iload_n hx hb dX12_hops_64 rfl (lv_at hl 3 rfl) ?_
      obtain ⟨T65, hT65, h⟩ := sat_reg h
      have J65 : ∀ (j_3 : Int32) (H : Heap) (locs : List Loc) (ls : Array Slot), T65 j_3 → wd D A s.heap H locs [(a0, .inr (12, [.int m_nodes, .int m_every, .int m_halves, .int m_age, .int m_life, .int m_first, .ref a1, .int m_undoMany, .int m_undoAt, .ref a2, .ref a3, .ref a4, .int m_letterMany, .ref a5, .int m_readAt, .int m_tokenAt, .int m_token, .int m_newNodes, .int m_newEvery, .int m_newHalves, .int m_newAge, .int m_newLife, .int m_newFirst, .int m_newLinks, .ref a6, .int m_pathMany, .int m_pathDelay, .ref a7, .ref a8, .int m_seenMany, .ref a9, .ref a10, .ref a11])), (a1, .inl (cI, 622, .inl (upd (upd m_now (106 + x1).toNatClampNeg ((m_now (106 + x1).toNatClampNeg) + 1)) (112 + x1).toNatClampNeg (((upd m_now (106 + x1).toNatClampNeg ((m_now (106 + x1).toNatClampNeg) + 1)) (112 + x1).toNatClampNeg) + j_2))))] → lv_has ls 9 [(0, .ref a0), (1, .int x1), (2, .int x2)] → W p l e rm_X12_hops s m args below meth c H locs 0 0 Q (F0 m 83 ls [.int j_3]) := by
        intro j_3 H locs ls h w hl
        have h := hT65 _ h
        refine lv_istore (lv' := [(4, .int j_3), (0, .ref a0), (1, .int x1), (2, .int x2)]) hx hb dX12_hops_83 hl (by decide) rfl (fun ls hl => ?_)
        refine lv_aload_n hx hb dX12_hops_85 rfl (lv_at hl 1 rfl) ?_
        refine gf_X12_19 hx hb hown hk w.1 0 rfl rfl dX12_hops_86 ?_
        refine lv_iconst (v := 0) hx hb dX12_hops_89 (by decide) ?_
        refine lv_dup2_11 hx hb dX12_hops_90 rfl rfl ?_
        obtain ⟨hi, h⟩ := sat_in h
        refine va_iald hx hb hk.1 w.1 1 0 rfl rfl hi dX12_hops_91 ?_
        refine lv_iconst (v := 1) hx hb dX12_hops_92 (by decide) ?_
        refine lv_iadd hx hb dX12_hops_93 ?_
        obtain ⟨hi, h⟩ := sat_in h
        refine ra_ist (ws' := [(a0, .inr (12, [.int m_nodes, .int m_every, .int m_halves, .int m_age, .int m_life, .int m_first, .ref a1, .int m_undoMany, .int m_undoAt, .ref a2, .ref a3, .ref a4, .int m_letterMany, .ref a5, .int m_readAt, .int m_tokenAt, .int m_token, .int m_newNodes, .int m_newEvery, .int m_newHalves, .int m_newAge, .int m_newLife, .int m_newFirst, .int m_newLinks, .ref a6, .int m_pathMany, .int m_pathDelay, .ref a7, .ref a8, .int m_seenMany, .ref a9, .ref a10, .ref a11])), (a1, .inl (cI, 622, .inl (upd (upd (upd m_now (106 + x1).toNatClampNeg ((m_now (106 + x1).toNatClampNeg) + 1)) (112 + x1).toNatClampNeg (((upd m_now (106 + x1).toNatClampNeg ((m_now (106 + x1).toNatClampNeg) + 1)) (112 + x1).toNatClampNeg) + j_2)) (0 : Int32).toNatClampNeg (((upd (upd m_now (106 + x1).toNatClampNeg ((m_now (106 + x1).toNatClampNeg) + 1)) (112 + x1).toNatClampNeg (((upd m_now (106 + x1).toNatClampNeg ((m_now (106 + x1).toNatClampNeg) + 1)) (112 + x1).toNatClampNeg) + j_2)) (0 : Int32).toNatClampNeg) + 1))))]) hx hb hk w 1 rfl hi rfl dX12_hops_94 (fun H locs w => ?_)
        refine lv_aload_n hx hb dX12_hops_95 rfl (lv_at hl 1 rfl) ?_
        refine gf_X12_19 hx hb hown hk w.1 0 rfl rfl dX12_hops_96 ?_
        refine lv_sipush (v := 154) hx hb dX12_hops_99 (by decide) ?_
        refine lv_iload_n hx hb dX12_hops_102 rfl (lv_at hl 2 rfl) ?_
        refine lv_iload hx hb dX12_hops_103 (lv_at hl 0 rfl) ?_
        obtain ⟨r_4, e_4, h⟩ := sat_bind h
        refine cRS (rest := [.int 154, .ref a1]) hx hb hml hown hk (k_X12_pair l D cI cZ cK x1 j_3 r_4 e_4) (me_X12_pair hk.2.1) (ms_X12_pair hk.2.1) (ml_X12_62 hk.2.1) (w.1.sub [] rfl) hl.1 rfl rfl (Nat.le_of_ble_eq_true rfl) ⟨rfl, rfl, Nat.le_of_ble_eq_true rfl, Nat.le_of_ble_eq_true rfl, Nat.zero_le _, Nat.zero_le _⟩ dX12_hops_105 ?_
        refine lv_iadd hx hb dX12_hops_108 ?_
        refine lv_dup2_11 hx hb dX12_hops_109 rfl rfl ?_
        obtain ⟨hi, h⟩ := sat_in h
        refine va_iald hx hb hk.1 w.1 1 0 rfl rfl hi dX12_hops_110 ?_
        refine lv_iconst (v := 1) hx hb dX12_hops_111 (by decide) ?_
        refine lv_iadd hx hb dX12_hops_112 ?_
        obtain ⟨hi, h⟩ := sat_in h
        refine ra_ist (ws' := [(a0, .inr (12, [.int m_nodes, .int m_every, .int m_halves, .int m_age, .int m_life, .int m_first, .ref a1, .int m_undoMany, .int m_undoAt, .ref a2, .ref a3, .ref a4, .int m_letterMany, .ref a5, .int m_readAt, .int m_tokenAt, .int m_token, .int m_newNodes, .int m_newEvery, .int m_newHalves, .int m_newAge, .int m_newLife, .int m_newFirst, .int m_newLinks, .ref a6, .int m_pathMany, .int m_pathDelay, .ref a7, .ref a8, .int m_seenMany, .ref a9, .ref a10, .ref a11])), (a1, .inl (cI, 622, .inl (upd (upd (upd (upd m_now (106 + x1).toNatClampNeg ((m_now (106 + x1).toNatClampNeg) + 1)) (112 + x1).toNatClampNeg (((upd m_now (106 + x1).toNatClampNeg ((m_now (106 + x1).toNatClampNeg) + 1)) (112 + x1).toNatClampNeg) + j_2)) (0 : Int32).toNatClampNeg (((upd (upd m_now (106 + x1).toNatClampNeg ((m_now (106 + x1).toNatClampNeg) + 1)) (112 + x1).toNatClampNeg (((upd m_now (106 + x1).toNatClampNeg ((m_now (106 + x1).toNatClampNeg) + 1)) (112 + x1).toNatClampNeg) + j_2)) (0 : Int32).toNatClampNeg) + 1)) (154 + r_4).toNatClampNeg (((upd (upd (upd m_now (106 + x1).toNatClampNeg ((m_now (106 + x1).toNatClampNeg) + 1)) (112 + x1).toNatClampNeg (((upd m_now (106 + x1).toNatClampNeg ((m_now (106 + x1).toNatClampNeg) + 1)) (112 + x1).toNatClampNeg) + j_2)) (0 : Int32).toNatClampNeg (((upd (upd m_now (106 + x1).toNatClampNeg ((m_now (106 + x1).toNatClampNeg) + 1)) (112 + x1).toNatClampNeg (((upd m_now (106 + x1).toNatClampNeg ((m_now (106 + x1).toNatClampNeg) + 1)) (112 + x1).toNatClampNeg) + j_2)) (0 : Int32).toNatClampNeg) + 1)) (154 + r_4).toNatClampNeg) + 1))))]) hx hb hk w 1 rfl hi rfl dX12_hops_113 (fun H locs w => ?_)
        refine lv_bipush (v := 64) hx hb dX12_hops_114 (by decide) ?_
        refine lv_aload_n hx hb dX12_hops_116 rfl (lv_at hl 1 rfl) ?_
        refine lv_iload_n hx hb dX12_hops_117 rfl (lv_at hl 2 rfl) ?_
        refine lv_iload hx hb dX12_hops_118 (lv_at hl 0 rfl) ?_
        obtain ⟨r_5, e_5, h⟩ := sat_bind h
        refine cRV (rest := [.int 64]) hx hb hml hown hk (k_X12_delay l D cI cZ cK a0 a1 a2 a3 a4 a5 a6 a7 a8 a9 a10 a11 m_nodes m_every m_halves m_age m_life m_first m_undoMany m_undoAt m_letterMany m_readAt m_tokenAt m_token m_newNodes m_newEvery m_newHalves m_newAge m_newLife m_newFirst m_newLinks m_pathMany m_pathDelay m_seenMany (upd (upd (upd (upd m_now (106 + x1).toNatClampNeg ((m_now (106 + x1).toNatClampNeg) + 1)) (112 + x1).toNatClampNeg (((upd m_now (106 + x1).toNatClampNeg ((m_now (106 + x1).toNatClampNeg) + 1)) (112 + x1).toNatClampNeg) + j_2)) (0 : Int32).toNatClampNeg (((upd (upd m_now (106 + x1).toNatClampNeg ((m_now (106 + x1).toNatClampNeg) + 1)) (112 + x1).toNatClampNeg (((upd m_now (106 + x1).toNatClampNeg ((m_now (106 + x1).toNatClampNeg) + 1)) (112 + x1).toNatClampNeg) + j_2)) (0 : Int32).toNatClampNeg) + 1)) (154 + r_4).toNatClampNeg (((upd (upd (upd m_now (106 + x1).toNatClampNeg ((m_now (106 + x1).toNatClampNeg) + 1)) (112 + x1).toNatClampNeg (((upd m_now (106 + x1).toNatClampNeg ((m_now (106 + x1).toNatClampNeg) + 1)) (112 + x1).toNatClampNeg) + j_2)) (0 : Int32).toNatClampNeg (((upd (upd m_now (106 + x1).toNatClampNeg ((m_now (106 + x1).toNatClampNeg) + 1)) (112 + x1).toNatClampNeg (((upd m_now (106 + x1).toNatClampNeg ((m_now (106 + x1).toNatClampNeg) + 1)) (112 + x1).toNatClampNeg) + j_2)) (0 : Int32).toNatClampNeg) + 1)) (154 + r_4).toNatClampNeg) + 1)) x1 j_3 r_5 e_5) (me_X12_delay hk.2.1) (mi_X12_delay hk.2.1) (ml_X12_143 hk.2.1) (w.1.sub [0, 1] rfl) 0 rfl rfl rfl hl.1 rfl rfl (Nat.le_of_ble_eq_true rfl) ⟨rfl, rfl, Nat.le_of_ble_eq_true rfl, Nat.le_of_ble_eq_true rfl, Nat.zero_le _, Nat.zero_le _⟩ dX12_hops_120 ?_
        refine lv_imul hx hb dX12_hops_123 ?_
        refine lv_istore (lv' := [(5, .int (64 * r_5)), (4, .int j_3), (0, .ref a0), (1, .int x1), (2, .int x2)]) hx hb dX12_hops_124 hl (by decide) rfl (fun ls hl => ?_)
        refine lv_iload hx hb dX12_hops_126 (lv_at hl 1 rfl) ?_
        refine lv_iload_n hx hb dX12_hops_128 rfl (lv_at hl 4 rfl) ?_
        obtain ⟨T129, hT129, h⟩ := sat_reg h
        have J129 : ∀ (j_6 : Int32) (m_now_7 : ar) (H : Heap) (locs : List Loc) (ls : Array Slot), T129 (j_6, m_now_7) → wd D A s.heap H locs [(a0, .inr (12, [.int m_nodes, .int m_every, .int m_halves, .int m_age, .int m_life, .int m_first, .ref a1, .int m_undoMany, .int m_undoAt, .ref a2, .ref a3, .ref a4, .int m_letterMany, .ref a5, .int m_readAt, .int m_tokenAt, .int m_token, .int m_newNodes, .int m_newEvery, .int m_newHalves, .int m_newAge, .int m_newLife, .int m_newFirst, .int m_newLinks, .ref a6, .int m_pathMany, .int m_pathDelay, .ref a7, .ref a8, .int m_seenMany, .ref a9, .ref a10, .ref a11])), (a1, .inl (cI, 622, .inl m_now_7))] → lv_has ls 9 [(0, .ref a0), (1, .int x1), (2, .int x2), (4, .int j_3), (5, .int j_6)] → W p l e rm_X12_hops s m args below meth c H locs 0 0 Q (F0 m 151 ls []) := by
          intro j_6 m_now_7 H locs ls h w hl
          have h := hT129 _ h
          dsimp only at h
          refine lv_aload_n hx hb dX12_hops_151 rfl (lv_at hl 0 rfl) ?_
          refine lv_iload_n hx hb dX12_hops_152 rfl (lv_at hl 1 rfl) ?_
          refine lv_iload_n hx hb dX12_hops_153 rfl (lv_at hl 2 rfl) ?_
          refine lv_iload hx hb dX12_hops_154 (lv_at hl 3 rfl) ?_
          obtain ⟨r_8, e_8, h⟩ := sat_bind h
          refine cRV (rest := []) hx hb hml hown hk (k_X12_guessNow l D cI cZ cK a0 a1 a2 a3 a4 a5 a6 a7 a8 a9 a10 a11 m_nodes m_every m_halves m_age m_life m_first m_undoMany m_undoAt m_letterMany m_readAt m_tokenAt m_token m_newNodes m_newEvery m_newHalves m_newAge m_newLife m_newFirst m_newLinks m_pathMany m_pathDelay m_seenMany m_now_7 x1 x2 j_3 r_8 e_8) (me_X12_guessNow hk.2.1) (mi_X12_guessNow hk.2.1) (ml_X12_146 hk.2.1) (w.1.sub [0, 1] rfl) 0 rfl rfl rfl hl.1 rfl rfl (Nat.le_of_ble_eq_true rfl) ⟨rfl, rfl, Nat.le_of_ble_eq_true rfl, Nat.le_of_ble_eq_true rfl, Nat.zero_le _, Nat.zero_le _⟩ dX12_hops_156 ?_
          refine lv_istore (lv' := [(6, .int r_8), (0, .ref a0), (1, .int x1), (2, .int x2), (4, .int j_3), (5, .int j_6)]) hx hb dX12_hops_159 hl (by decide) rfl (fun ls hl => ?_)
          refine lv_iload hx hb dX12_hops_161 (lv_at hl 0 rfl) ?_
          refine lv_iload hx hb dX12_hops_163 (lv_at hl 5 rfl) ?_
          refine lv_iload hx hb dX12_hops_165 (lv_at hl 0 rfl) ?_
          refine lv_isub hx hb dX12_hops_167 ?_
          refine lv_aload_n hx hb dX12_hops_168 rfl (lv_at hl 1 rfl) ?_
          refine gf_X12_123 hx hb hown hk w.1 0 rfl rfl dX12_hops_169 ?_
          refine lv_ishr hx hb dX12_hops_172 ?_
          refine lv_iadd hx hb dX12_hops_173 ?_
          refine lv_istore (lv' := [(7, .int (r_8 + ((j_6 - r_8) >>> (m_halves &&& 31)))), (6, .int r_8), (0, .ref a0), (1, .int x1), (2, .int x2), (4, .int j_3), (5, .int j_6)]) hx hb dX12_hops_174 hl (by decide) rfl (fun ls hl => ?_)
          refine lv_iload_n hx hb dX12_hops_176 rfl (lv_at hl 3 rfl) ?_
          refine lv_iload_n hx hb dX12_hops_177 rfl (lv_at hl 4 rfl) ?_
          refine lv_iload hx hb dX12_hops_178 (lv_at hl 5 rfl) ?_
          obtain ⟨r_9, e_9, h⟩ := sat_bind h
          refine cRS (rest := []) hx hb hml hown hk (k_X12_guessAt l D cI cZ cK x1 x2 j_3 r_9 e_9) (me_X12_guessAt hk.2.1) (ms_X12_guessAt hk.2.1) (ml_X12_139 hk.2.1) (w.1.sub [] rfl) hl.1 rfl rfl (Nat.le_of_ble_eq_true rfl) ⟨rfl, rfl, Nat.le_of_ble_eq_true rfl, Nat.le_of_ble_eq_true rfl, Nat.zero_le _, Nat.zero_le _⟩ dX12_hops_180 ?_
          refine lv_istore (lv' := [(8, .int r_9), (7, .int (r_8 + ((j_6 - r_8) >>> (m_halves &&& 31)))), (6, .int r_8), (0, .ref a0), (1, .int x1), (2, .int x2), (4, .int j_3), (5, .int j_6)]) hx hb dX12_hops_183 hl (by decide) rfl (fun ls hl => ?_)
          refine lv_aload_n hx hb dX12_hops_185 rfl (lv_at hl 3 rfl) ?_
          refine gf_X12_19 hx hb hown hk w.1 0 rfl rfl dX12_hops_186 ?_
          refine lv_sipush (v := 190) hx hb dX12_hops_189 (by decide) ?_
          refine lv_iload hx hb dX12_hops_192 (lv_at hl 0 rfl) ?_
          refine lv_iadd hx hb dX12_hops_194 ?_
          refine lv_iload hx hb dX12_hops_195 (lv_at hl 1 rfl) ?_
          refine lv_ldc (v := 63936) hx hb hown (co_X12_158 hk.2.1 args) dX12_hops_197 ?_
          refine lv_icmp_le (tgt := 207) hx hb dX12_hops_199 (by decide) (fun c199 => ?_) (fun c199 => ?_)
          · have h := sat_t c199 h
            refine lv_iload hx hb dX12_hops_207 (lv_at hl 1 rfl) ?_
            obtain ⟨hi, h⟩ := sat_in h
            refine ra_ist (ws' := [(a0, .inr (12, [.int m_nodes, .int m_every, .int m_halves, .int m_age, .int m_life, .int m_first, .ref a1, .int m_undoMany, .int m_undoAt, .ref a2, .ref a3, .ref a4, .int m_letterMany, .ref a5, .int m_readAt, .int m_tokenAt, .int m_token, .int m_newNodes, .int m_newEvery, .int m_newHalves, .int m_newAge, .int m_newLife, .int m_newFirst, .int m_newLinks, .ref a6, .int m_pathMany, .int m_pathDelay, .ref a7, .ref a8, .int m_seenMany, .ref a9, .ref a10, .ref a11])), (a1, .inl (cI, 622, .inl (upd m_now_7 (190 + r_9).toNatClampNeg (r_8 + ((j_6 - r_8) >>> (m_halves &&& 31))))))]) hx hb hk w 1 rfl hi rfl dX12_hops_209 (fun H locs w => ?_)
            refine lv_aload_n hx hb dX12_hops_210 rfl (lv_at hl 3 rfl) ?_
            refine gf_X12_19 hx hb hown hk w.1 0 rfl rfl dX12_hops_211 ?_
            refine lv_sipush (v := 406) hx hb dX12_hops_214 (by decide) ?_
            refine lv_iload hx hb dX12_hops_217 (lv_at hl 0 rfl) ?_
            refine lv_iadd hx hb dX12_hops_219 ?_
            refine lv_aload_n hx hb dX12_hops_220 rfl (lv_at hl 3 rfl) ?_
            refine gf_X12_19 hx hb hown hk w.1 0 rfl rfl dX12_hops_221 ?_
            refine lv_iconst (v := 0) hx hb dX12_hops_224 (by decide) ?_
            obtain ⟨hi, h⟩ := sat_in h
            refine va_iald hx hb hk.1 w.1 1 0 rfl rfl hi dX12_hops_225 ?_
            obtain ⟨hi, h⟩ := sat_in h
            refine ra_ist (ws' := [(a0, .inr (12, [.int m_nodes, .int m_every, .int m_halves, .int m_age, .int m_life, .int m_first, .ref a1, .int m_undoMany, .int m_undoAt, .ref a2, .ref a3, .ref a4, .int m_letterMany, .ref a5, .int m_readAt, .int m_tokenAt, .int m_token, .int m_newNodes, .int m_newEvery, .int m_newHalves, .int m_newAge, .int m_newLife, .int m_newFirst, .int m_newLinks, .ref a6, .int m_pathMany, .int m_pathDelay, .ref a7, .ref a8, .int m_seenMany, .ref a9, .ref a10, .ref a11])), (a1, .inl (cI, 622, .inl (upd (upd m_now_7 (190 + r_9).toNatClampNeg (r_8 + ((j_6 - r_8) >>> (m_halves &&& 31)))) (406 + r_9).toNatClampNeg ((upd m_now_7 (190 + r_9).toNatClampNeg (r_8 + ((j_6 - r_8) >>> (m_halves &&& 31)))) (0 : Int32).toNatClampNeg))))]) hx hb hk w 1 rfl hi rfl dX12_hops_226 (fun H locs w => ?_)
            refine lv_iload hx hb dX12_hops_227 (lv_at hl 6 rfl) ?_
            have hR := hC0 _ (sat_some h)
            subst hR
            exact hret _ _ _ _ w dX12_hops_229
          · have h := sat_f c199 h
            refine lv_ldc (v := 63936) hx hb hown (co_X12_158 hk.2.1 args) dX12_hops_202 ?_
            refine lv_goto (tgt := 209) hx hb dX12_hops_204 (by decide) ?_
            obtain ⟨hi, h⟩ := sat_in h
            refine ra_ist (ws' := [(a0, .inr (12, [.int m_nodes, .int m_every, .int m_halves, .int m_age, .int m_life, .int m_first, .ref a1, .int m_undoMany, .int m_undoAt, .ref a2, .ref a3, .ref a4, .int m_letterMany, .ref a5, .int m_readAt, .int m_tokenAt, .int m_token, .int m_newNodes, .int m_newEvery, .int m_newHalves, .int m_newAge, .int m_newLife, .int m_newFirst, .int m_newLinks, .ref a6, .int m_pathMany, .int m_pathDelay, .ref a7, .ref a8, .int m_seenMany, .ref a9, .ref a10, .ref a11])), (a1, .inl (cI, 622, .inl (upd m_now_7 (190 + r_9).toNatClampNeg 63936)))]) hx hb hk w 1 rfl hi rfl dX12_hops_209 (fun H locs w => ?_)
            refine lv_aload_n hx hb dX12_hops_210 rfl (lv_at hl 3 rfl) ?_
            refine gf_X12_19 hx hb hown hk w.1 0 rfl rfl dX12_hops_211 ?_
            refine lv_sipush (v := 406) hx hb dX12_hops_214 (by decide) ?_
            refine lv_iload hx hb dX12_hops_217 (lv_at hl 0 rfl) ?_
            refine lv_iadd hx hb dX12_hops_219 ?_
            refine lv_aload_n hx hb dX12_hops_220 rfl (lv_at hl 3 rfl) ?_
            refine gf_X12_19 hx hb hown hk w.1 0 rfl rfl dX12_hops_221 ?_
            refine lv_iconst (v := 0) hx hb dX12_hops_224 (by decide) ?_
            obtain ⟨hi, h⟩ := sat_in h
            refine va_iald hx hb hk.1 w.1 1 0 rfl rfl hi dX12_hops_225 ?_
            obtain ⟨hi, h⟩ := sat_in h
            refine ra_ist (ws' := [(a0, .inr (12, [.int m_nodes, .int m_every, .int m_halves, .int m_age, .int m_life, .int m_first, .ref a1, .int m_undoMany, .int m_undoAt, .ref a2, .ref a3, .ref a4, .int m_letterMany, .ref a5, .int m_readAt, .int m_tokenAt, .int m_token, .int m_newNodes, .int m_newEvery, .int m_newHalves, .int m_newAge, .int m_newLife, .int m_newFirst, .int m_newLinks, .ref a6, .int m_pathMany, .int m_pathDelay, .ref a7, .ref a8, .int m_seenMany, .ref a9, .ref a10, .ref a11])), (a1, .inl (cI, 622, .inl (upd (upd m_now_7 (190 + r_9).toNatClampNeg 63936) (406 + r_9).toNatClampNeg ((upd m_now_7 (190 + r_9).toNatClampNeg 63936) (0 : Int32).toNatClampNeg))))]) hx hb hk w 1 rfl hi rfl dX12_hops_226 (fun H locs w => ?_)
            refine lv_iload hx hb dX12_hops_227 (lv_at hl 6 rfl) ?_
            have hR := hC0 _ (sat_some h)
            subst hR
            exact hret _ _ _ _ w dX12_hops_229
        refine lv_icmp_eq (tgt := 151) hx hb dX12_hops_129 (by decide) (fun c129 => ?_) (fun c129 => ?_)
        · have h := sat_t c129 h
          exact J129 (64 * r_5) (upd (upd (upd (upd m_now (106 + x1).toNatClampNeg ((m_now (106 + x1).toNatClampNeg) + 1)) (112 + x1).toNatClampNeg (((upd m_now (106 + x1).toNatClampNeg ((m_now (106 + x1).toNatClampNeg) + 1)) (112 + x1).toNatClampNeg) + j_2)) (0 : Int32).toNatClampNeg (((upd (upd m_now (106 + x1).toNatClampNeg ((m_now (106 + x1).toNatClampNeg) + 1)) (112 + x1).toNatClampNeg (((upd m_now (106 + x1).toNatClampNeg ((m_now (106 + x1).toNatClampNeg) + 1)) (112 + x1).toNatClampNeg) + j_2)) (0 : Int32).toNatClampNeg) + 1)) (154 + r_4).toNatClampNeg (((upd (upd (upd m_now (106 + x1).toNatClampNeg ((m_now (106 + x1).toNatClampNeg) + 1)) (112 + x1).toNatClampNeg (((upd m_now (106 + x1).toNatClampNeg ((m_now (106 + x1).toNatClampNeg) + 1)) (112 + x1).toNatClampNeg) + j_2)) (0 : Int32).toNatClampNeg (((upd (upd m_now (106 + x1).toNatClampNeg ((m_now (106 + x1).toNatClampNeg) + 1)) (112 + x1).toNatClampNeg (((upd m_now (106 + x1).toNatClampNeg ((m_now (106 + x1).toNatClampNeg) + 1)) (112 + x1).toNatClampNeg) + j_2)) (0 : Int32).toNatClampNeg) + 1)) (154 + r_4).toNatClampNeg) + 1)) _ _ _ (sat_some h) w (lv_sub hl [2, 3, 4, 1, 0] rfl)
        · have h := sat_f c129 h
          refine lv_iload hx hb dX12_hops_132 (lv_at hl 0 rfl) ?_
          refine lv_aload_n hx hb dX12_hops_134 rfl (lv_at hl 2 rfl) ?_
          refine lv_iload hx hb dX12_hops_135 (lv_at hl 1 rfl) ?_
          refine lv_iload_n hx hb dX12_hops_137 rfl (lv_at hl 4 rfl) ?_
          refine lv_aload_n hx hb dX12_hops_138 rfl (lv_at hl 2 rfl) ?_
          refine lv_iload hx hb dX12_hops_139 (lv_at hl 1 rfl) ?_
          refine lv_iload_n hx hb dX12_hops_141 rfl (lv_at hl 4 rfl) ?_
          obtain ⟨r_10, e_10, h⟩ := sat_bind h
          refine cRV (rest := [.int x2, .int j_3, .ref a0, .int (64 * r_5)]) hx hb hml hown hk (k_X12_bestOf l D cI cZ cK N a0 a1 a2 a3 a4 a5 a6 a7 a8 a9 a10 a11 m_nodes m_every m_halves m_age m_life m_first m_undoMany m_undoAt m_letterMany m_readAt m_tokenAt m_token m_newNodes m_newEvery m_newHalves m_newAge m_newLife m_newFirst m_newLinks m_pathMany m_pathDelay m_seenMany (upd (upd (upd (upd m_now (106 + x1).toNatClampNeg ((m_now (106 + x1).toNatClampNeg) + 1)) (112 + x1).toNatClampNeg (((upd m_now (106 + x1).toNatClampNeg ((m_now (106 + x1).toNatClampNeg) + 1)) (112 + x1).toNatClampNeg) + j_2)) (0 : Int32).toNatClampNeg (((upd (upd m_now (106 + x1).toNatClampNeg ((m_now (106 + x1).toNatClampNeg) + 1)) (112 + x1).toNatClampNeg (((upd m_now (106 + x1).toNatClampNeg ((m_now (106 + x1).toNatClampNeg) + 1)) (112 + x1).toNatClampNeg) + j_2)) (0 : Int32).toNatClampNeg) + 1)) (154 + r_4).toNatClampNeg (((upd (upd (upd m_now (106 + x1).toNatClampNeg ((m_now (106 + x1).toNatClampNeg) + 1)) (112 + x1).toNatClampNeg (((upd m_now (106 + x1).toNatClampNeg ((m_now (106 + x1).toNatClampNeg) + 1)) (112 + x1).toNatClampNeg) + j_2)) (0 : Int32).toNatClampNeg (((upd (upd m_now (106 + x1).toNatClampNeg ((m_now (106 + x1).toNatClampNeg) + 1)) (112 + x1).toNatClampNeg (((upd m_now (106 + x1).toNatClampNeg ((m_now (106 + x1).toNatClampNeg) + 1)) (112 + x1).toNatClampNeg) + j_2)) (0 : Int32).toNatClampNeg) + 1)) (154 + r_4).toNatClampNeg) + 1)) j_3 x2 r_10 e_10) (me_X12_bestOf hk.2.1) (mi_X12_bestOf hk.2.1) (ml_X12_155 hk.2.1) (w.1.sub [0, 1] rfl) 0 rfl rfl rfl hl.1 rfl rfl (Nat.le_of_ble_eq_true rfl) ⟨rfl, rfl, Nat.le_of_ble_eq_true rfl, Nat.le_of_ble_eq_true rfl, Nat.zero_le _, Nat.zero_le _⟩ dX12_hops_142 ?_
          obtain ⟨r_11, e_11, h⟩ := sat_bind h
          refine cRV (rest := [.int (64 * r_5)]) hx hb hml hown hk (k_X12_guessNow l D cI cZ cK a0 a1 a2 a3 a4 a5 a6 a7 a8 a9 a10 a11 m_nodes m_every m_halves m_age m_life m_first m_undoMany m_undoAt m_letterMany m_readAt m_tokenAt m_token m_newNodes m_newEvery m_newHalves m_newAge m_newLife m_newFirst m_newLinks m_pathMany m_pathDelay m_seenMany (upd (upd (upd (upd m_now (106 + x1).toNatClampNeg ((m_now (106 + x1).toNatClampNeg) + 1)) (112 + x1).toNatClampNeg (((upd m_now (106 + x1).toNatClampNeg ((m_now (106 + x1).toNatClampNeg) + 1)) (112 + x1).toNatClampNeg) + j_2)) (0 : Int32).toNatClampNeg (((upd (upd m_now (106 + x1).toNatClampNeg ((m_now (106 + x1).toNatClampNeg) + 1)) (112 + x1).toNatClampNeg (((upd m_now (106 + x1).toNatClampNeg ((m_now (106 + x1).toNatClampNeg) + 1)) (112 + x1).toNatClampNeg) + j_2)) (0 : Int32).toNatClampNeg) + 1)) (154 + r_4).toNatClampNeg (((upd (upd (upd m_now (106 + x1).toNatClampNeg ((m_now (106 + x1).toNatClampNeg) + 1)) (112 + x1).toNatClampNeg (((upd m_now (106 + x1).toNatClampNeg ((m_now (106 + x1).toNatClampNeg) + 1)) (112 + x1).toNatClampNeg) + j_2)) (0 : Int32).toNatClampNeg (((upd (upd m_now (106 + x1).toNatClampNeg ((m_now (106 + x1).toNatClampNeg) + 1)) (112 + x1).toNatClampNeg (((upd m_now (106 + x1).toNatClampNeg ((m_now (106 + x1).toNatClampNeg) + 1)) (112 + x1).toNatClampNeg) + j_2)) (0 : Int32).toNatClampNeg) + 1)) (154 + r_4).toNatClampNeg) + 1)) j_3 x2 r_10 r_11 e_11) (me_X12_guessNow hk.2.1) (mi_X12_guessNow hk.2.1) (ml_X12_146 hk.2.1) (w.1.sub [0, 1] rfl) 0 rfl rfl rfl hl.1 rfl rfl (Nat.le_of_ble_eq_true rfl) ⟨rfl, rfl, Nat.le_of_ble_eq_true rfl, Nat.le_of_ble_eq_true rfl, Nat.zero_le _, Nat.zero_le _⟩ dX12_hops_145 ?_
          refine lv_iadd hx hb dX12_hops_148 ?_
          refine lv_istore (lv' := [(5, .int ((64 * r_5) + r_11)), (4, .int j_3), (0, .ref a0), (1, .int x1), (2, .int x2)]) hx hb dX12_hops_149 hl (by decide) rfl (fun ls hl => ?_)
          exact J129 ((64 * r_5) + r_11) (upd (upd (upd (upd m_now (106 + x1).toNatClampNeg ((m_now (106 + x1).toNatClampNeg) + 1)) (112 + x1).toNatClampNeg (((upd m_now (106 + x1).toNatClampNeg ((m_now (106 + x1).toNatClampNeg) + 1)) (112 + x1).toNatClampNeg) + j_2)) (0 : Int32).toNatClampNeg (((upd (upd m_now (106 + x1).toNatClampNeg ((m_now (106 + x1).toNatClampNeg) + 1)) (112 + x1).toNatClampNeg (((upd m_now (106 + x1).toNatClampNeg ((m_now (106 + x1).toNatClampNeg) + 1)) (112 + x1).toNatClampNeg) + j_2)) (0 : Int32).toNatClampNeg) + 1)) (154 + r_4).toNatClampNeg (((upd (upd (upd m_now (106 + x1).toNatClampNeg ((m_now (106 + x1).toNatClampNeg) + 1)) (112 + x1).toNatClampNeg (((upd m_now (106 + x1).toNatClampNeg ((m_now (106 + x1).toNatClampNeg) + 1)) (112 + x1).toNatClampNeg) + j_2)) (0 : Int32).toNatClampNeg (((upd (upd m_now (106 + x1).toNatClampNeg ((m_now (106 + x1).toNatClampNeg) + 1)) (112 + x1).toNatClampNeg (((upd m_now (106 + x1).toNatClampNeg ((m_now (106 + x1).toNatClampNeg) + 1)) (112 + x1).toNatClampNeg) + j_2)) (0 : Int32).toNatClampNeg) + 1)) (154 + r_4).toNatClampNeg) + 1)) _ _ _ (sat_some h) w (lv_sub hl [2, 3, 4, 1, 0] rfl)
      refine lv_if_eq (tgt := 77) hx hb dX12_hops_65 (by decide) (fun c65 => ?_) (fun c65 => ?_)
      · have h := sat_t c65 h
        refine lv_aload_n hx hb dX12_hops_77 rfl (lv_at hl 0 rfl) ?_
        refine lv_iload_n hx hb dX12_hops_78 rfl (lv_at hl 1 rfl) ?_
        refine lv_iload_n hx hb dX12_hops_79 rfl (lv_at hl 2 rfl) ?_
        obtain ⟨r_12, e_12, h⟩ := sat_bind h
        refine cRV (rest := []) hx hb hml hown hk (k_X12_bestOf l D cI cZ cK N a0 a1 a2 a3 a4 a5 a6 a7 a8 a9 a10 a11 m_nodes m_every m_halves m_age m_life m_first m_undoMany m_undoAt m_letterMany m_readAt m_tokenAt m_token m_newNodes m_newEvery m_newHalves m_newAge m_newLife m_newFirst m_newLinks m_pathMany m_pathDelay m_seenMany (upd (upd m_now (106 + x1).toNatClampNeg ((m_now (106 + x1).toNatClampNeg) + 1)) (112 + x1).toNatClampNeg (((upd m_now (106 + x1).toNatClampNeg ((m_now (106 + x1).toNatClampNeg) + 1)) (112 + x1).toNatClampNeg) + j_2)) x1 x2 r_12 e_12) (me_X12_bestOf hk.2.1) (mi_X12_bestOf hk.2.1) (ml_X12_155 hk.2.1) (w.1.sub [0, 1] rfl) 0 rfl rfl rfl hl.1 rfl rfl (Nat.le_of_ble_eq_true rfl) ⟨rfl, rfl, Nat.le_of_ble_eq_true rfl, Nat.le_of_ble_eq_true rfl, Nat.zero_le _, Nat.zero_le _⟩ dX12_hops_80 ?_
        exact J65 r_12 _ _ _ (sat_some h) w (lv_sub hl [0, 1, 2] rfl)
      · have h := sat_f c65 h
        refine lv_aload_n hx hb dX12_hops_68 rfl (lv_at hl 0 rfl) ?_
        refine lv_iload_n hx hb dX12_hops_69 rfl (lv_at hl 1 rfl) ?_
        refine lv_iload_n hx hb dX12_hops_70 rfl (lv_at hl 2 rfl) ?_
        obtain ⟨r_13, e_13, h⟩ := sat_bind h
        refine cRV (rest := []) hx hb hml hown hk (k_X12_eldestOf l D cI cZ cK N a0 a1 a2 a3 a4 a5 a6 a7 a8 a9 a10 a11 m_nodes m_every m_halves m_age m_life m_first m_undoMany m_undoAt m_letterMany m_readAt m_tokenAt m_token m_newNodes m_newEvery m_newHalves m_newAge m_newLife m_newFirst m_newLinks m_pathMany m_pathDelay m_seenMany (upd (upd m_now (106 + x1).toNatClampNeg ((m_now (106 + x1).toNatClampNeg) + 1)) (112 + x1).toNatClampNeg (((upd m_now (106 + x1).toNatClampNeg ((m_now (106 + x1).toNatClampNeg) + 1)) (112 + x1).toNatClampNeg) + j_2)) x1 x2 r_13 e_13) (me_X12_eldestOf hk.2.1) (mi_X12_eldestOf hk.2.1) (ml_X12_152 hk.2.1) (w.1.sub [0, 1] rfl) 0 rfl rfl rfl hl.1 rfl rfl (Nat.le_of_ble_eq_true rfl) ⟨rfl, rfl, Nat.le_of_ble_eq_true rfl, Nat.le_of_ble_eq_true rfl, Nat.zero_le _, Nat.zero_le _⟩ dX12_hops_71 ?_
        refine lv_goto (tgt := 83) hx hb dX12_hops_74 (by decide) ?_
        exact J65 r_13 _ _ _ (sat_some h) w (lv_sub hl [0, 1, 2] rfl)
    refine lv_if_eq (tgt := 61) hx hb dX12_hops_54 (by decide) (fun c54 => ?_) (fun c54 => ?_)
    · have h := sat_t c54 h
      refine lv_iconst (v := 0) hx hb dX12_hops_61 (by decide) ?_
      exact J54 0 _ _ _ (sat_some h) w (lv_sub hl [1, 2, 3, 0] rfl)
    · have h := sat_f c54 h
      refine lv_iconst (v := 1) hx hb dX12_hops_57 (by decide) ?_
      refine lv_goto (tgt := 62) hx hb dX12_hops_58 (by decide) ?_
      exact J54 1 _ _ _ (sat_some h) w (lv_sub hl [1, 2, 3, 0] rfl)
  refine lv_if_le (tgt := 41) hx hb dX12_hops_17 (by decide) (fun c17 => ?_) (fun c17 => ?_)
  · have h := sat_t c17 h
    refine lv_iconst (v := 0) hx hb dX12_hops_41 (by decide) ?_
    exact J17 0 _ _ _ (sat_some h) w (lv_sub hl [0, 1, 2] rfl)
  · have h := sat_f c17 h
    refine lv_aload_n hx hb dX12_hops_20 rfl (lv_at hl 0 rfl) ?_
    refine gf_X12_19 hx hb hown hk w.1 0 rfl rfl dX12_hops_21 ?_
    refine lv_bipush (v := 106) hx hb dX12_hops_24 (by decide) ?_
    refine lv_iload_n hx hb dX12_hops_26 rfl (lv_at hl 1 rfl) ?_
    refine lv_iadd hx hb dX12_hops_27 ?_
    obtain ⟨hi, h⟩ := sat_in h
    refine va_iald hx hb hk.1 w.1 1 0 rfl rfl hi dX12_hops_28 ?_
    refine lv_aload_n hx hb dX12_hops_29 rfl (lv_at hl 0 rfl) ?_
    refine gf_X12_120 hx hb hown hk w.1 0 rfl rfl dX12_hops_30 ?_
    obtain ⟨hz, h⟩ := sat_nz h
    refine lv_irem hx hb dX12_hops_33 hz ?_
    refine lv_if_ne (tgt := 41) hx hb dX12_hops_34 (by decide) (fun c34 => ?_) (fun c34 => ?_)
    · have h := sat_f c34 h
      refine lv_iconst (v := 0) hx hb dX12_hops_41 (by decide) ?_
      exact J17 0 _ _ _ (sat_some h) w (lv_sub hl [0, 1, 2] rfl)
    · have h := sat_t c34 h
      refine lv_iconst (v := 1) hx hb dX12_hops_37 (by decide) ?_
      refine lv_goto (tgt := 42) hx hb dX12_hops_38 (by decide) ?_
      exact J17 1 _ _ _ (sat_some h) w (lv_sub hl [0, 1, 2] rfl)
def f_X12_letter_L33 (m_nodes : Int32) (m_every : Int32) (m_halves : Int32) (m_age : Int32) (m_life : Int32) (m_first : Int32) (x2 : Int32) (N : Nat) : Nat → Int32 → Int32 → ar → Option (Int32 × ar)
  | 0, _, _, _ => none
  | n + 1, x3_33, x4_33, m_now_33 => Option.bind (f_X12_hops N m_nodes m_every m_halves m_age m_first m_now_33 x3_33 x2) fun r_2 => Option.bind (f_X12_delay r_2.2 x3_33 r_2.1) fun r_3 => ck (inb 1 622) (ck (inb 1 622) (ck (inb 1 622) (ck (inb (2 + ((upd r_2.2 (1 : Int32).toNatClampNeg ((r_2.2 (1 : Int32).toNatClampNeg) + 1)) (1 : Int32).toNatClampNeg)) 622) (if r_2.1 = x2 then some (x4_33 + r_3, upd (upd r_2.2 (1 : Int32).toNatClampNeg ((r_2.2 (1 : Int32).toNatClampNeg) + 1)) (2 + ((upd r_2.2 (1 : Int32).toNatClampNeg ((r_2.2 (1 : Int32).toNatClampNeg) + 1)) (1 : Int32).toNatClampNeg)).toNatClampNeg r_2.1) else if (x4_33 + r_3) ≤ m_life then f_X12_letter_L33 m_nodes m_every m_halves m_age m_life m_first x2 N n r_2.1 (x4_33 + r_3) (upd (upd r_2.2 (1 : Int32).toNatClampNeg ((r_2.2 (1 : Int32).toNatClampNeg) + 1)) (2 + ((upd r_2.2 (1 : Int32).toNatClampNeg ((r_2.2 (1 : Int32).toNatClampNeg) + 1)) (1 : Int32).toNatClampNeg)).toNatClampNeg r_2.1) else some ((-9), upd (upd r_2.2 (1 : Int32).toNatClampNeg ((r_2.2 (1 : Int32).toNatClampNeg) + 1)) (2 + ((upd r_2.2 (1 : Int32).toNatClampNeg ((r_2.2 (1 : Int32).toNatClampNeg) + 1)) (1 : Int32).toNatClampNeg)).toNatClampNeg r_2.1)))))
def f_X12_letter (N : Nat) (m_nodes : Int32) (m_every : Int32) (m_halves : Int32) (m_age : Int32) (m_life : Int32) (m_first : Int32) (m_now : ar) (x1 : Int32) (x2 : Int32) : Option (Int32 × ar) := ck (inb 1 622) (ck (inb 2 622) (Option.bind (f_X12_bestOf N m_nodes m_age m_first (upd (upd m_now (1 : Int32).toNatClampNeg 0) (2 : Int32).toNatClampNeg x1) x1 x2) fun r_1 => if r_1 = (-9) then some ((-9), upd (upd m_now (1 : Int32).toNatClampNeg 0) (2 : Int32).toNatClampNeg x1) else f_X12_letter_L33 m_nodes m_every m_halves m_age m_life m_first x2 N N x1 0 (upd (upd m_now (1 : Int32).toNatClampNeg 0) (2 : Int32).toNatClampNeg x1)))
abbrev rm_X12_letter : Room := { frames := 4, cells := 0, slots := 0, locals := 99 }
set_option maxRecDepth 100000 in
set_option maxHeartbeats 4000000 in
theorem k_X12_letter (l : Launch) (D : va_G) (cI cZ cK : ClassId) (N : Nat) (a0 a1 a2 a3 a4 a5 a6 a7 a8 a9 a10 a11 : Nat) (m_nodes : Int32) (m_every : Int32) (m_halves : Int32) (m_age : Int32) (m_life : Int32) (m_first : Int32) (m_undoMany : Int32) (m_undoAt : Int32) (m_letterMany : Int32) (m_readAt : Int32) (m_tokenAt : Int32) (m_token : Int32) (m_newNodes : Int32) (m_newEvery : Int32) (m_newHalves : Int32) (m_newAge : Int32) (m_newLife : Int32) (m_newFirst : Int32) (m_newLinks : Int32) (m_pathMany : Int32) (m_pathDelay : Int32) (m_seenMany : Int32) (m_now : ar) (x1 : Int32) (x2 : Int32) (R : Int32 × ar) (h : f_X12_letter N m_nodes m_every m_halves m_age m_life m_first m_now x1 x2 = some R) : Mu l D cI cZ cK yX12_letter cX12_letter 6 (some .int) rm_X12_letter [.ref a0, .int x1, .int x2] [(a0, .inr (12, [.int m_nodes, .int m_every, .int m_halves, .int m_age, .int m_life, .int m_first, .ref a1, .int m_undoMany, .int m_undoAt, .ref a2, .ref a3, .ref a4, .int m_letterMany, .ref a5, .int m_readAt, .int m_tokenAt, .int m_token, .int m_newNodes, .int m_newEvery, .int m_newHalves, .int m_newAge, .int m_newLife, .int m_newFirst, .int m_newLinks, .ref a6, .int m_pathMany, .int m_pathDelay, .ref a7, .ref a8, .int m_seenMany, .ref a9, .ref a10, .ref a11])), (a1, .inl (cI, 622, .inl m_now))] (some (.int R.1)) [(a0, .inr (12, [.int m_nodes, .int m_every, .int m_halves, .int m_age, .int m_life, .int m_first, .ref a1, .int m_undoMany, .int m_undoAt, .ref a2, .ref a3, .ref a4, .int m_letterMany, .ref a5, .int m_readAt, .int m_tokenAt, .int m_token, .int m_newNodes, .int m_newEvery, .int m_newHalves, .int m_newAge, .int m_newLife, .int m_newFirst, .int m_newLinks, .ref a6, .int m_pathMany, .int m_pathDelay, .ref a7, .ref a8, .int m_seenMany, .ref a9, .ref a10, .ref a11])), (a1, .inl (cI, 622, .inl R.2))] := by
  refine mi_of (by decide) (vp_nar_int _) (Nat.le_of_ble_eq_true rfl) ?_
  intro p e s m args below meth c Q A ls hx hb hml hown hk hA w hret hl
  have hl : lv_has ls 6 [(0, .ref a0), (1, .int x1), (2, .int x2)] := hl
  obtain ⟨C0, hC0, h⟩ := sat_top h
  unfold f_X12_letter at h
  refine lv_aload_n hx hb dX12_letter_0 rfl (lv_at hl 0 rfl) ?_
  refine gf_X12_19 hx hb hown hk w.1 0 rfl rfl dX12_letter_1 ?_
  refine lv_iconst (v := 1) hx hb dX12_letter_4 (by decide) ?_
  refine lv_iconst (v := 0) hx hb dX12_letter_5 (by decide) ?_
  obtain ⟨hi, h⟩ := sat_in h
  refine ra_ist (ws' := [(a0, .inr (12, [.int m_nodes, .int m_every, .int m_halves, .int m_age, .int m_life, .int m_first, .ref a1, .int m_undoMany, .int m_undoAt, .ref a2, .ref a3, .ref a4, .int m_letterMany, .ref a5, .int m_readAt, .int m_tokenAt, .int m_token, .int m_newNodes, .int m_newEvery, .int m_newHalves, .int m_newAge, .int m_newLife, .int m_newFirst, .int m_newLinks, .ref a6, .int m_pathMany, .int m_pathDelay, .ref a7, .ref a8, .int m_seenMany, .ref a9, .ref a10, .ref a11])), (a1, .inl (cI, 622, .inl (upd m_now (1 : Int32).toNatClampNeg 0)))]) hx hb hk w 1 rfl hi rfl dX12_letter_6 (fun H locs w => ?_)
  refine lv_aload_n hx hb dX12_letter_7 rfl (lv_at hl 0 rfl) ?_
  refine gf_X12_19 hx hb hown hk w.1 0 rfl rfl dX12_letter_8 ?_
  refine lv_iconst (v := 2) hx hb dX12_letter_11 (by decide) ?_
  refine lv_iload_n hx hb dX12_letter_12 rfl (lv_at hl 1 rfl) ?_
  obtain ⟨hi, h⟩ := sat_in h
  refine ra_ist (ws' := [(a0, .inr (12, [.int m_nodes, .int m_every, .int m_halves, .int m_age, .int m_life, .int m_first, .ref a1, .int m_undoMany, .int m_undoAt, .ref a2, .ref a3, .ref a4, .int m_letterMany, .ref a5, .int m_readAt, .int m_tokenAt, .int m_token, .int m_newNodes, .int m_newEvery, .int m_newHalves, .int m_newAge, .int m_newLife, .int m_newFirst, .int m_newLinks, .ref a6, .int m_pathMany, .int m_pathDelay, .ref a7, .ref a8, .int m_seenMany, .ref a9, .ref a10, .ref a11])), (a1, .inl (cI, 622, .inl (upd (upd m_now (1 : Int32).toNatClampNeg 0) (2 : Int32).toNatClampNeg x1)))]) hx hb hk w 1 rfl hi rfl dX12_letter_13 (fun H locs w => ?_)
  refine lv_iload_n hx hb dX12_letter_14 rfl (lv_at hl 1 rfl) ?_
  refine lv_istore_n (lv' := [(3, .int x1), (0, .ref a0), (1, .int x1), (2, .int x2)]) hx hb dX12_letter_15 rfl hl (by decide) rfl (fun ls hl => ?_)
  refine lv_iconst (v := 0) hx hb dX12_letter_16 (by decide) ?_
  refine lv_istore (lv' := [(4, .int 0), (3, .int x1), (0, .ref a0), (1, .int x1), (2, .int x2)]) hx hb dX12_letter_17 hl (by decide) rfl (fun ls hl => ?_)
  refine lv_aload_n hx hb dX12_letter_19 rfl (lv_at hl 2 rfl) ?_
  refine lv_iload_n hx hb dX12_letter_20 rfl (lv_at hl 3 rfl) ?_
  refine lv_iload_n hx hb dX12_letter_21 rfl (lv_at hl 4 rfl) ?_
  obtain ⟨r_1, e_1, h⟩ := sat_bind h
  refine cRV (rest := []) hx hb hml hown hk (k_X12_bestOf l D cI cZ cK N a0 a1 a2 a3 a4 a5 a6 a7 a8 a9 a10 a11 m_nodes m_every m_halves m_age m_life m_first m_undoMany m_undoAt m_letterMany m_readAt m_tokenAt m_token m_newNodes m_newEvery m_newHalves m_newAge m_newLife m_newFirst m_newLinks m_pathMany m_pathDelay m_seenMany (upd (upd m_now (1 : Int32).toNatClampNeg 0) (2 : Int32).toNatClampNeg x1) x1 x2 r_1 e_1) (me_X12_bestOf hk.2.1) (mi_X12_bestOf hk.2.1) (ml_X12_155 hk.2.1) (w.1.sub [0, 1] rfl) 0 rfl rfl rfl hl.1 rfl rfl (Nat.le_of_ble_eq_true rfl) ⟨rfl, rfl, Nat.le_of_ble_eq_true rfl, Nat.le_of_ble_eq_true rfl, Nat.zero_le _, Nat.zero_le _⟩ dX12_letter_22 ?_
  refine lv_bipush (v := (-9)) hx hb dX12_letter_25 (by decide) ?_
  refine lv_icmp_ne (tgt := 33) hx hb dX12_letter_27 (by decide) (fun c27 => ?_) (fun c27 => ?_)
  · have h := sat_f c27 h
    have L33 : ∀ (n : Nat) (x3_33 : Int32) (x4_33 : Int32) (m_now_33 : ar) (H : Heap) (locs : List Loc) (ls : Array Slot), sat (f_X12_letter_L33 m_nodes m_every m_halves m_age m_life m_first x2 N n x3_33 x4_33 m_now_33) C0 → wd D A s.heap H locs [(a0, .inr (12, [.int m_nodes, .int m_every, .int m_halves, .int m_age, .int m_life, .int m_first, .ref a1, .int m_undoMany, .int m_undoAt, .ref a2, .ref a3, .ref a4, .int m_letterMany, .ref a5, .int m_readAt, .int m_tokenAt, .int m_token, .int m_newNodes, .int m_newEvery, .int m_newHalves, .int m_newAge, .int m_newLife, .int m_newFirst, .int m_newLinks, .ref a6, .int m_pathMany, .int m_pathDelay, .ref a7, .ref a8, .int m_seenMany, .ref a9, .ref a10, .ref a11])), (a1, .inl (cI, 622, .inl m_now_33))] → lv_has ls 6 [(0, .ref a0), (2, .int x2), (3, .int x3_33), (4, .int x4_33)] → W p l e rm_X12_letter s m args below meth c H locs 0 0 Q (F0 m 33 ls []) := by
      intro n
      induction n with
      | zero =>
        intro x3_33 x4_33 m_now_33 H locs ls h
        rw [f_X12_letter_L33] at h
        exact (sat_none h).elim
      | succ n ih =>
        intro x3_33 x4_33 m_now_33 H locs ls h w hl
        rw [f_X12_letter_L33] at h
        refine lv_aload_n hx hb dX12_letter_33 rfl (lv_at hl 0 rfl) ?_
        refine lv_iload_n hx hb dX12_letter_34 rfl (lv_at hl 2 rfl) ?_
        refine lv_iload_n hx hb dX12_letter_35 rfl (lv_at hl 1 rfl) ?_
        obtain ⟨r_2, e_2, h⟩ := sat_bind h
        refine cMV (rest := []) (wr := []) (ws' := [(a0, .inr (12, [.int m_nodes, .int m_every, .int m_halves, .int m_age, .int m_life, .int m_first, .ref a1, .int m_undoMany, .int m_undoAt, .ref a2, .ref a3, .ref a4, .int m_letterMany, .ref a5, .int m_readAt, .int m_tokenAt, .int m_token, .int m_newNodes, .int m_newEvery, .int m_newHalves, .int m_newAge, .int m_newLife, .int m_newFirst, .int m_newLinks, .ref a6, .int m_pathMany, .int m_pathDelay, .ref a7, .ref a8, .int m_seenMany, .ref a9, .ref a10, .ref a11])), (a1, .inl (cI, 622, .inl r_2.2))]) hx hb hml hown hk w hA (k_X12_hops l D cI cZ cK N a0 a1 a2 a3 a4 a5 a6 a7 a8 a9 a10 a11 m_nodes m_every m_halves m_age m_life m_first m_undoMany m_undoAt m_letterMany m_readAt m_tokenAt m_token m_newNodes m_newEvery m_newHalves m_newAge m_newLife m_newFirst m_newLinks m_pathMany m_pathDelay m_seenMany m_now_33 x3_33 x2 r_2 e_2) (me_X12_hops hk.2.1) (mi_X12_hops hk.2.1) (ml_X12_159 hk.2.1) ((pmn 2 [0, 1] rfl rfl (by decide))) ((pmn 2 [0, 1] rfl rfl (by decide))) 0 rfl rfl rfl hl.1 rfl rfl (Nat.le_of_ble_eq_true rfl) ⟨rfl, rfl, Nat.le_of_ble_eq_true rfl, Nat.le_of_ble_eq_true rfl, Nat.zero_le _, Nat.zero_le _⟩ dX12_letter_36 (fun H locs w => ?_)
        refine W.eq (g2 := F0 m 39 ls [.int r_2.1]) rfl ?_
        refine lv_istore (lv' := [(5, .int r_2.1), (0, .ref a0), (2, .int x2), (3, .int x3_33), (4, .int x4_33)]) hx hb dX12_letter_39 hl (by decide) rfl (fun ls hl => ?_)
        refine lv_iload hx hb dX12_letter_41 (lv_at hl 4 rfl) ?_
        refine lv_aload_n hx hb dX12_letter_43 rfl (lv_at hl 1 rfl) ?_
        refine lv_iload_n hx hb dX12_letter_44 rfl (lv_at hl 3 rfl) ?_
        refine lv_iload hx hb dX12_letter_45 (lv_at hl 0 rfl) ?_
        obtain ⟨r_3, e_3, h⟩ := sat_bind h
        refine cRV (rest := [.int x4_33]) hx hb hml hown hk (k_X12_delay l D cI cZ cK a0 a1 a2 a3 a4 a5 a6 a7 a8 a9 a10 a11 m_nodes m_every m_halves m_age m_life m_first m_undoMany m_undoAt m_letterMany m_readAt m_tokenAt m_token m_newNodes m_newEvery m_newHalves m_newAge m_newLife m_newFirst m_newLinks m_pathMany m_pathDelay m_seenMany r_2.2 x3_33 r_2.1 r_3 e_3) (me_X12_delay hk.2.1) (mi_X12_delay hk.2.1) (ml_X12_143 hk.2.1) (w.1.sub [0, 1] rfl) 0 rfl rfl rfl hl.1 rfl rfl (Nat.le_of_ble_eq_true rfl) ⟨rfl, rfl, Nat.le_of_ble_eq_true rfl, Nat.le_of_ble_eq_true rfl, Nat.zero_le _, Nat.zero_le _⟩ dX12_letter_47 ?_
        refine lv_iadd hx hb dX12_letter_50 ?_
        refine lv_istore (lv' := [(4, .int (x4_33 + r_3)), (5, .int r_2.1), (0, .ref a0), (2, .int x2), (3, .int x3_33)]) hx hb dX12_letter_51 hl (by decide) rfl (fun ls hl => ?_)
        refine lv_aload_n hx hb dX12_letter_53 rfl (lv_at hl 2 rfl) ?_
        refine gf_X12_19 hx hb hown hk w.1 0 rfl rfl dX12_letter_54 ?_
        refine lv_iconst (v := 1) hx hb dX12_letter_57 (by decide) ?_
        refine lv_dup2_11 hx hb dX12_letter_58 rfl rfl ?_
        obtain ⟨hi, h⟩ := sat_in h
        refine va_iald hx hb hk.1 w.1 1 0 rfl rfl hi dX12_letter_59 ?_
        refine lv_iconst (v := 1) hx hb dX12_letter_60 (by decide) ?_
        refine lv_iadd hx hb dX12_letter_61 ?_
        obtain ⟨hi, h⟩ := sat_in h
        refine ra_ist (ws' := [(a0, .inr (12, [.int m_nodes, .int m_every, .int m_halves, .int m_age, .int m_life, .int m_first, .ref a1, .int m_undoMany, .int m_undoAt, .ref a2, .ref a3, .ref a4, .int m_letterMany, .ref a5, .int m_readAt, .int m_tokenAt, .int m_token, .int m_newNodes, .int m_newEvery, .int m_newHalves, .int m_newAge, .int m_newLife, .int m_newFirst, .int m_newLinks, .ref a6, .int m_pathMany, .int m_pathDelay, .ref a7, .ref a8, .int m_seenMany, .ref a9, .ref a10, .ref a11])), (a1, .inl (cI, 622, .inl (upd r_2.2 (1 : Int32).toNatClampNeg ((r_2.2 (1 : Int32).toNatClampNeg) + 1))))]) hx hb hk w 1 rfl hi rfl dX12_letter_62 (fun H locs w => ?_)
        refine lv_aload_n hx hb dX12_letter_63 rfl (lv_at hl 2 rfl) ?_
        refine gf_X12_19 hx hb hown hk w.1 0 rfl rfl dX12_letter_64 ?_
        refine lv_iconst (v := 2) hx hb dX12_letter_67 (by decide) ?_
        refine lv_aload_n hx hb dX12_letter_68 rfl (lv_at hl 2 rfl) ?_
        refine gf_X12_19 hx hb hown hk w.1 0 rfl rfl dX12_letter_69 ?_
        refine lv_iconst (v := 1) hx hb dX12_letter_72 (by decide) ?_
        obtain ⟨hi, h⟩ := sat_in h
        refine va_iald hx hb hk.1 w.1 1 0 rfl rfl hi dX12_letter_73 ?_
        refine lv_iadd hx hb dX12_letter_74 ?_
        refine lv_iload hx hb dX12_letter_75 (lv_at hl 1 rfl) ?_
        obtain ⟨hi, h⟩ := sat_in h
        refine ra_ist (ws' := [(a0, .inr (12, [.int m_nodes, .int m_every, .int m_halves, .int m_age, .int m_life, .int m_first, .ref a1, .int m_undoMany, .int m_undoAt, .ref a2, .ref a3, .ref a4, .int m_letterMany, .ref a5, .int m_readAt, .int m_tokenAt, .int m_token, .int m_newNodes, .int m_newEvery, .int m_newHalves, .int m_newAge, .int m_newLife, .int m_newFirst, .int m_newLinks, .ref a6, .int m_pathMany, .int m_pathDelay, .ref a7, .ref a8, .int m_seenMany, .ref a9, .ref a10, .ref a11])), (a1, .inl (cI, 622, .inl (upd (upd r_2.2 (1 : Int32).toNatClampNeg ((r_2.2 (1 : Int32).toNatClampNeg) + 1)) (2 + ((upd r_2.2 (1 : Int32).toNatClampNeg ((r_2.2 (1 : Int32).toNatClampNeg) + 1)) (1 : Int32).toNatClampNeg)).toNatClampNeg r_2.1)))]) hx hb hk w 1 rfl hi rfl dX12_letter_77 (fun H locs w => ?_)
        refine lv_iload hx hb dX12_letter_78 (lv_at hl 1 rfl) ?_
        refine lv_istore_n (lv' := [(3, .int r_2.1), (4, .int (x4_33 + r_3)), (5, .int r_2.1), (0, .ref a0), (2, .int x2)]) hx hb dX12_letter_80 rfl hl (by decide) rfl (fun ls hl => ?_)
        refine lv_iload_n hx hb dX12_letter_81 rfl (lv_at hl 0 rfl) ?_
        refine lv_iload_n hx hb dX12_letter_82 rfl (lv_at hl 4 rfl) ?_
        refine lv_icmp_ne (tgt := 89) hx hb dX12_letter_83 (by decide) (fun c83 => ?_) (fun c83 => ?_)
        · have h := sat_f c83 h
          refine lv_iload hx hb dX12_letter_89 (lv_at hl 1 rfl) ?_
          refine lv_aload_n hx hb dX12_letter_91 rfl (lv_at hl 3 rfl) ?_
          refine gf_X12_16 hx hb hown hk w.1 0 rfl rfl dX12_letter_92 ?_
          refine lv_icmp_le (tgt := 101) hx hb dX12_letter_95 (by decide) (fun c95 => ?_) (fun c95 => ?_)
          · have h := sat_t c95 h
            refine lv_goto (tgt := 33) hx hb dX12_letter_101 (by decide) ?_
            exact ih r_2.1 (x4_33 + r_3) (upd (upd r_2.2 (1 : Int32).toNatClampNeg ((r_2.2 (1 : Int32).toNatClampNeg) + 1)) (2 + ((upd r_2.2 (1 : Int32).toNatClampNeg ((r_2.2 (1 : Int32).toNatClampNeg) + 1)) (1 : Int32).toNatClampNeg)).toNatClampNeg r_2.1) _ _ _ h w (lv_sub hl [3, 4, 0, 1] rfl)
          · have h := sat_f c95 h
            refine lv_bipush (v := (-9)) hx hb dX12_letter_98 (by decide) ?_
            have hR := hC0 _ (sat_some h)
            subst hR
            exact hret _ _ _ _ w dX12_letter_100
        · have h := sat_t c83 h
          refine lv_iload hx hb dX12_letter_86 (lv_at hl 1 rfl) ?_
          have hR := hC0 _ (sat_some h)
          subst hR
          exact hret _ _ _ _ w dX12_letter_88
    exact L33 N x1 0 (upd (upd m_now (1 : Int32).toNatClampNeg 0) (2 : Int32).toNatClampNeg x1) _ _ _ h w (lv_sub hl [2, 4, 1, 0] rfl)
  · have h := sat_t c27 h
    refine lv_bipush (v := (-9)) hx hb dX12_letter_30 (by decide) ?_
    have hR := hC0 _ (sat_some h)
    subst hR
    exact hret _ _ _ _ w dX12_letter_32
def f_X12_sends (N : Nat) (m_nodes : Int32) (m_every : Int32) (m_halves : Int32) (m_age : Int32) (m_life : Int32) (m_first : Int32) (m_now : ar) (m_undoMany : Int32) (m_undoAt : Int32) (m_undos : ar) (x1 : Int32) (x2 : Int32) : Option (Int32 × Int32 × Int32 × ar × ar) := Option.bind (f_X12_isNode m_nodes x1) fun r_1 => if (b2i r_1) = 0 then some ((-1), m_undoMany, m_undoAt, m_now, m_undos) else Option.bind (f_X12_isNode m_nodes x2) fun r_2 => if (b2i r_2) = 0 then some ((-1), m_undoMany, m_undoAt, m_now, m_undos) else if x1 = x2 then some ((-1), m_undoMany, m_undoAt, m_now, m_undos) else Option.bind (f_X12_remembers N m_now m_undoMany m_undoAt m_undos) fun r_3 => Option.bind (f_X12_letter N m_nodes m_every m_halves m_age m_life m_first m_now x1 x2) fun r_4 => some (r_4.1, r_3.1, r_3.2.1, r_4.2, r_3.2.2)
abbrev rm_X12_sends : Room := { frames := 5, cells := 0, slots := 0, locals := 124 }
set_option maxRecDepth 100000 in
set_option maxHeartbeats 4000000 in
theorem k_X12_sends (l : Launch) (D : va_G) (cI cZ cK : ClassId) (N : Nat) (a0 a1 a2 a3 a4 a5 a6 a7 a8 a9 a10 a11 : Nat) (m_nodes : Int32) (m_every : Int32) (m_halves : Int32) (m_age : Int32) (m_life : Int32) (m_first : Int32) (m_undoMany : Int32) (m_undoAt : Int32) (m_letterMany : Int32) (m_readAt : Int32) (m_tokenAt : Int32) (m_token : Int32) (m_newNodes : Int32) (m_newEvery : Int32) (m_newHalves : Int32) (m_newAge : Int32) (m_newLife : Int32) (m_newFirst : Int32) (m_newLinks : Int32) (m_pathMany : Int32) (m_pathDelay : Int32) (m_seenMany : Int32) (m_now : ar) (m_undos : ar) (x1 : Int32) (x2 : Int32) (R : Int32 × Int32 × Int32 × ar × ar) (h : f_X12_sends N m_nodes m_every m_halves m_age m_life m_first m_now m_undoMany m_undoAt m_undos x1 x2 = some R) : Mu l D cI cZ cK yX12_sends cX12_sends 3 (some .int) rm_X12_sends [.ref a0, .int x1, .int x2] [(a0, .inr (12, [.int m_nodes, .int m_every, .int m_halves, .int m_age, .int m_life, .int m_first, .ref a1, .int m_undoMany, .int m_undoAt, .ref a2, .ref a3, .ref a4, .int m_letterMany, .ref a5, .int m_readAt, .int m_tokenAt, .int m_token, .int m_newNodes, .int m_newEvery, .int m_newHalves, .int m_newAge, .int m_newLife, .int m_newFirst, .int m_newLinks, .ref a6, .int m_pathMany, .int m_pathDelay, .ref a7, .ref a8, .int m_seenMany, .ref a9, .ref a10, .ref a11])), (a1, .inl (cI, 622, .inl m_now)), (a2, .inl (cI, 4976, .inl m_undos))] (some (.int R.1)) [(a0, .inr (12, [.int m_nodes, .int m_every, .int m_halves, .int m_age, .int m_life, .int m_first, .ref a1, .int R.2.1, .int R.2.2.1, .ref a2, .ref a3, .ref a4, .int m_letterMany, .ref a5, .int m_readAt, .int m_tokenAt, .int m_token, .int m_newNodes, .int m_newEvery, .int m_newHalves, .int m_newAge, .int m_newLife, .int m_newFirst, .int m_newLinks, .ref a6, .int m_pathMany, .int m_pathDelay, .ref a7, .ref a8, .int m_seenMany, .ref a9, .ref a10, .ref a11])), (a1, .inl (cI, 622, .inl R.2.2.2.1)), (a2, .inl (cI, 4976, .inl R.2.2.2.2))] := by
  refine mi_of (by decide) (vp_nar_int _) (Nat.le_of_ble_eq_true rfl) ?_
  intro p e s m args below meth c Q A ls hx hb hml hown hk hA w hret hl
  have hl : lv_has ls 3 [(0, .ref a0), (1, .int x1), (2, .int x2)] := hl
  obtain ⟨C0, hC0, h⟩ := sat_top h
  unfold f_X12_sends at h
  refine lv_aload_n hx hb dX12_sends_0 rfl (lv_at hl 0 rfl) ?_
  refine lv_iload_n hx hb dX12_sends_1 rfl (lv_at hl 1 rfl) ?_
  obtain ⟨r_1, e_1, h⟩ := sat_bind h
  refine cRV (rest := []) hx hb hml hown hk (k_X12_isNode l D cI cZ cK a0 a1 a2 a3 a4 a5 a6 a7 a8 a9 a10 a11 m_nodes m_every m_halves m_age m_life m_first m_undoMany m_undoAt m_letterMany m_readAt m_tokenAt m_token m_newNodes m_newEvery m_newHalves m_newAge m_newLife m_newFirst m_newLinks m_pathMany m_pathDelay m_seenMany x1 r_1 e_1) (me_X12_isNode hk.2.1) (mi_X12_isNode hk.2.1) (ml_X12_162 hk.2.1) (w.1.sub [0] rfl) 0 rfl rfl rfl hl.1 rfl rfl (Nat.le_of_ble_eq_true rfl) ⟨rfl, rfl, Nat.le_of_ble_eq_true rfl, Nat.le_of_ble_eq_true rfl, Nat.zero_le _, Nat.zero_le _⟩ dX12_sends_2 ?_
  refine lv_if_eq (tgt := 21) hx hb dX12_sends_5 (by decide) (fun c5 => ?_) (fun c5 => ?_)
  · have h := sat_t c5 h
    refine lv_iconst (v := (-1)) hx hb dX12_sends_21 (by decide) ?_
    have hR := hC0 _ (sat_some h)
    subst hR
    exact hret _ _ _ _ w dX12_sends_22
  · have h := sat_f c5 h
    refine lv_aload_n hx hb dX12_sends_8 rfl (lv_at hl 0 rfl) ?_
    refine lv_iload_n hx hb dX12_sends_9 rfl (lv_at hl 2 rfl) ?_
    obtain ⟨r_2, e_2, h⟩ := sat_bind h
    refine cRV (rest := []) hx hb hml hown hk (k_X12_isNode l D cI cZ cK a0 a1 a2 a3 a4 a5 a6 a7 a8 a9 a10 a11 m_nodes m_every m_halves m_age m_life m_first m_undoMany m_undoAt m_letterMany m_readAt m_tokenAt m_token m_newNodes m_newEvery m_newHalves m_newAge m_newLife m_newFirst m_newLinks m_pathMany m_pathDelay m_seenMany x2 r_2 e_2) (me_X12_isNode hk.2.1) (mi_X12_isNode hk.2.1) (ml_X12_162 hk.2.1) (w.1.sub [0] rfl) 0 rfl rfl rfl hl.1 rfl rfl (Nat.le_of_ble_eq_true rfl) ⟨rfl, rfl, Nat.le_of_ble_eq_true rfl, Nat.le_of_ble_eq_true rfl, Nat.zero_le _, Nat.zero_le _⟩ dX12_sends_10 ?_
    refine lv_if_eq (tgt := 21) hx hb dX12_sends_13 (by decide) (fun c13 => ?_) (fun c13 => ?_)
    · have h := sat_t c13 h
      refine lv_iconst (v := (-1)) hx hb dX12_sends_21 (by decide) ?_
      have hR := hC0 _ (sat_some h)
      subst hR
      exact hret _ _ _ _ w dX12_sends_22
    · have h := sat_f c13 h
      refine lv_iload_n hx hb dX12_sends_16 rfl (lv_at hl 1 rfl) ?_
      refine lv_iload_n hx hb dX12_sends_17 rfl (lv_at hl 2 rfl) ?_
      refine lv_icmp_ne (tgt := 23) hx hb dX12_sends_18 (by decide) (fun c18 => ?_) (fun c18 => ?_)
      · have h := sat_f c18 h
        refine lv_aload_n hx hb dX12_sends_23 rfl (lv_at hl 0 rfl) ?_
        obtain ⟨r_3, e_3, h⟩ := sat_bind h
        refine cMV (rest := []) (wr := []) (ws' := [(a0, .inr (12, [.int m_nodes, .int m_every, .int m_halves, .int m_age, .int m_life, .int m_first, .ref a1, .int r_3.1, .int r_3.2.1, .ref a2, .ref a3, .ref a4, .int m_letterMany, .ref a5, .int m_readAt, .int m_tokenAt, .int m_token, .int m_newNodes, .int m_newEvery, .int m_newHalves, .int m_newAge, .int m_newLife, .int m_newFirst, .int m_newLinks, .ref a6, .int m_pathMany, .int m_pathDelay, .ref a7, .ref a8, .int m_seenMany, .ref a9, .ref a10, .ref a11])), (a1, .inl (cI, 622, .inl m_now)), (a2, .inl (cI, 4976, .inl r_3.2.2))]) hx hb hml hown hk w hA (k_X12_remembers l D cI cZ cK N a0 a1 a2 a3 a4 a5 a6 a7 a8 a9 a10 a11 m_nodes m_every m_halves m_age m_life m_first m_undoMany m_undoAt m_letterMany m_readAt m_tokenAt m_token m_newNodes m_newEvery m_newHalves m_newAge m_newLife m_newFirst m_newLinks m_pathMany m_pathDelay m_seenMany m_now m_undos r_3 e_3) (me_X12_remembers hk.2.1) (mi_X12_remembers hk.2.1) (ml_X12_165 hk.2.1) ((pmn 3 [0, 1, 2] rfl rfl (by decide))) ((pmn 3 [0, 1, 2] rfl rfl (by decide))) 0 rfl rfl rfl hl.1 rfl rfl (Nat.le_of_ble_eq_true rfl) ⟨rfl, rfl, Nat.le_of_ble_eq_true rfl, Nat.le_of_ble_eq_true rfl, Nat.zero_le _, Nat.zero_le _⟩ dX12_sends_24 (fun H locs w => ?_)
        refine W.eq (g2 := F0 m 27 ls []) rfl ?_
        refine lv_aload_n hx hb dX12_sends_27 rfl (lv_at hl 0 rfl) ?_
        refine lv_iload_n hx hb dX12_sends_28 rfl (lv_at hl 1 rfl) ?_
        refine lv_iload_n hx hb dX12_sends_29 rfl (lv_at hl 2 rfl) ?_
        obtain ⟨r_4, e_4, h⟩ := sat_bind h
        refine cMV (rest := []) (wr := [(a2, .inl (cI, 4976, .inl r_3.2.2))]) (ws' := [(a0, .inr (12, [.int m_nodes, .int m_every, .int m_halves, .int m_age, .int m_life, .int m_first, .ref a1, .int r_3.1, .int r_3.2.1, .ref a2, .ref a3, .ref a4, .int m_letterMany, .ref a5, .int m_readAt, .int m_tokenAt, .int m_token, .int m_newNodes, .int m_newEvery, .int m_newHalves, .int m_newAge, .int m_newLife, .int m_newFirst, .int m_newLinks, .ref a6, .int m_pathMany, .int m_pathDelay, .ref a7, .ref a8, .int m_seenMany, .ref a9, .ref a10, .ref a11])), (a1, .inl (cI, 622, .inl r_4.2)), (a2, .inl (cI, 4976, .inl r_3.2.2))]) hx hb hml hown hk w hA (k_X12_letter l D cI cZ cK N a0 a1 a2 a3 a4 a5 a6 a7 a8 a9 a10 a11 m_nodes m_every m_halves m_age m_life m_first r_3.1 r_3.2.1 m_letterMany m_readAt m_tokenAt m_token m_newNodes m_newEvery m_newHalves m_newAge m_newLife m_newFirst m_newLinks m_pathMany m_pathDelay m_seenMany m_now x1 x2 r_4 e_4) (me_X12_letter hk.2.1) (mi_X12_letter hk.2.1) (ml_X12_168 hk.2.1) ((pmn 3 [0, 1, 2] rfl rfl (by decide))) ((pmn 3 [0, 1, 2] rfl rfl (by decide))) 0 rfl rfl rfl hl.1 rfl rfl (Nat.le_of_ble_eq_true rfl) ⟨rfl, rfl, Nat.le_of_ble_eq_true rfl, Nat.le_of_ble_eq_true rfl, Nat.zero_le _, Nat.zero_le _⟩ dX12_sends_30 (fun H locs w => ?_)
        refine W.eq (g2 := F0 m 33 ls [.int r_4.1]) rfl ?_
        have hR := hC0 _ (sat_some h)
        subst hR
        exact hret _ _ _ _ w dX12_sends_33
      · have h := sat_t c18 h
        refine lv_iconst (v := (-1)) hx hb dX12_sends_21 (by decide) ?_
        have hR := hC0 _ (sat_some h)
        subst hR
        exact hret _ _ _ _ w dX12_sends_22
def f_X12_rounds_L19 (m_nodes : Int32) (m_every : Int32) (m_halves : Int32) (m_age : Int32) (m_life : Int32) (m_first : Int32) (x1 : Int32) (N : Nat) : Nat → Int32 → Int32 → ar → Option (Int32 × ar)
  | 0, _, _, _ => none
  | n + 1, x2_19, x3_19, m_now_19 => if ((x1 * m_nodes) * m_nodes) ≤ x3_19 then some (x2_19, m_now_19) else ck (nz m_nodes) (ck (nz m_nodes) (ck (nz m_nodes) (if ((x3_19 / m_nodes) - (x3_19 / m_nodes) / m_nodes * m_nodes) = (x3_19 - x3_19 / m_nodes * m_nodes) then f_X12_rounds_L19 m_nodes m_every m_halves m_age m_life m_first x1 N n (x2_19 + 0) (x3_19 + 1) m_now_19 else Option.bind (f_X12_letter N m_nodes m_every m_halves m_age m_life m_first m_now_19 ((x3_19 / m_nodes) - (x3_19 / m_nodes) / m_nodes * m_nodes) (x3_19 - x3_19 / m_nodes * m_nodes)) fun r_3 => if r_3.1 < 0 then f_X12_rounds_L19 m_nodes m_every m_halves m_age m_life m_first x1 N n (x2_19 + 0) (x3_19 + 1) r_3.2 else f_X12_rounds_L19 m_nodes m_every m_halves m_age m_life m_first x1 N n (x2_19 + 1) (x3_19 + 1) r_3.2)))
def f_X12_rounds (N : Nat) (m_nodes : Int32) (m_every : Int32) (m_halves : Int32) (m_age : Int32) (m_life : Int32) (m_first : Int32) (m_now : ar) (m_undoMany : Int32) (m_undoAt : Int32) (m_undos : ar) (x1 : Int32) : Option (Int32 × Int32 × Int32 × ar × ar) := Option.bind (f_X12_in x1 1 4) fun r_1 => if (b2i r_1) = 0 then some ((-1), m_undoMany, m_undoAt, m_now, m_undos) else Option.bind (f_X12_remembers N m_now m_undoMany m_undoAt m_undos) fun r_2 => Option.bind (f_X12_rounds_L19 m_nodes m_every m_halves m_age m_life m_first x1 N N 0 0 m_now) fun s19 => some (s19.1, r_2.1, r_2.2.1, s19.2, r_2.2.2)
abbrev rm_X12_rounds : Room := { frames := 5, cells := 0, slots := 0, locals := 124 }
set_option maxRecDepth 100000 in
set_option maxHeartbeats 4000000 in
theorem k_X12_rounds (l : Launch) (D : va_G) (cI cZ cK : ClassId) (N : Nat) (a0 a1 a2 a3 a4 a5 a6 a7 a8 a9 a10 a11 : Nat) (m_nodes : Int32) (m_every : Int32) (m_halves : Int32) (m_age : Int32) (m_life : Int32) (m_first : Int32) (m_undoMany : Int32) (m_undoAt : Int32) (m_letterMany : Int32) (m_readAt : Int32) (m_tokenAt : Int32) (m_token : Int32) (m_newNodes : Int32) (m_newEvery : Int32) (m_newHalves : Int32) (m_newAge : Int32) (m_newLife : Int32) (m_newFirst : Int32) (m_newLinks : Int32) (m_pathMany : Int32) (m_pathDelay : Int32) (m_seenMany : Int32) (m_now : ar) (m_undos : ar) (x1 : Int32) (R : Int32 × Int32 × Int32 × ar × ar) (h : f_X12_rounds N m_nodes m_every m_halves m_age m_life m_first m_now m_undoMany m_undoAt m_undos x1 = some R) : Mu l D cI cZ cK yX12_rounds cX12_rounds 6 (some .int) rm_X12_rounds [.ref a0, .int x1] [(a0, .inr (12, [.int m_nodes, .int m_every, .int m_halves, .int m_age, .int m_life, .int m_first, .ref a1, .int m_undoMany, .int m_undoAt, .ref a2, .ref a3, .ref a4, .int m_letterMany, .ref a5, .int m_readAt, .int m_tokenAt, .int m_token, .int m_newNodes, .int m_newEvery, .int m_newHalves, .int m_newAge, .int m_newLife, .int m_newFirst, .int m_newLinks, .ref a6, .int m_pathMany, .int m_pathDelay, .ref a7, .ref a8, .int m_seenMany, .ref a9, .ref a10, .ref a11])), (a1, .inl (cI, 622, .inl m_now)), (a2, .inl (cI, 4976, .inl m_undos))] (some (.int R.1)) [(a0, .inr (12, [.int m_nodes, .int m_every, .int m_halves, .int m_age, .int m_life, .int m_first, .ref a1, .int R.2.1, .int R.2.2.1, .ref a2, .ref a3, .ref a4, .int m_letterMany, .ref a5, .int m_readAt, .int m_tokenAt, .int m_token, .int m_newNodes, .int m_newEvery, .int m_newHalves, .int m_newAge, .int m_newLife, .int m_newFirst, .int m_newLinks, .ref a6, .int m_pathMany, .int m_pathDelay, .ref a7, .ref a8, .int m_seenMany, .ref a9, .ref a10, .ref a11])), (a1, .inl (cI, 622, .inl R.2.2.2.1)), (a2, .inl (cI, 4976, .inl R.2.2.2.2))] := by
  refine mi_of (by decide) (vp_nar_int _) (Nat.le_of_ble_eq_true rfl) ?_
  intro p e s m args below meth c Q A ls hx hb hml hown hk hA w hret hl
  have hl : lv_has ls 6 [(0, .ref a0), (1, .int x1)] := hl
  obtain ⟨C0, hC0, h⟩ := sat_top h
  unfold f_X12_rounds at h
  refine lv_iload_n hx hb dX12_rounds_0 rfl (lv_at hl 1 rfl) ?_
  refine lv_iconst (v := 1) hx hb dX12_rounds_1 (by decide) ?_
  refine lv_iconst (v := 4) hx hb dX12_rounds_2 (by decide) ?_
  obtain ⟨r_1, e_1, h⟩ := sat_bind h
  refine cRS (rest := []) hx hb hml hown hk (k_X12_in l D cI cZ cK x1 1 4 r_1 e_1) (me_X12_in hk.2.1) (ms_X12_in hk.2.1) (ml_X12_58 hk.2.1) (w.1.sub [] rfl) hl.1 rfl rfl (Nat.le_of_ble_eq_true rfl) ⟨rfl, rfl, Nat.le_of_ble_eq_true rfl, Nat.le_of_ble_eq_true rfl, Nat.zero_le _, Nat.zero_le _⟩ dX12_rounds_3 ?_
  refine lv_if_ne (tgt := 11) hx hb dX12_rounds_6 (by decide) (fun c6 => ?_) (fun c6 => ?_)
  · have h := sat_f c6 h
    refine lv_aload_n hx hb dX12_rounds_11 rfl (lv_at hl 0 rfl) ?_
    obtain ⟨r_2, e_2, h⟩ := sat_bind h
    refine cMV (rest := []) (wr := []) (ws' := [(a0, .inr (12, [.int m_nodes, .int m_every, .int m_halves, .int m_age, .int m_life, .int m_first, .ref a1, .int r_2.1, .int r_2.2.1, .ref a2, .ref a3, .ref a4, .int m_letterMany, .ref a5, .int m_readAt, .int m_tokenAt, .int m_token, .int m_newNodes, .int m_newEvery, .int m_newHalves, .int m_newAge, .int m_newLife, .int m_newFirst, .int m_newLinks, .ref a6, .int m_pathMany, .int m_pathDelay, .ref a7, .ref a8, .int m_seenMany, .ref a9, .ref a10, .ref a11])), (a1, .inl (cI, 622, .inl m_now)), (a2, .inl (cI, 4976, .inl r_2.2.2))]) hx hb hml hown hk w hA (k_X12_remembers l D cI cZ cK N a0 a1 a2 a3 a4 a5 a6 a7 a8 a9 a10 a11 m_nodes m_every m_halves m_age m_life m_first m_undoMany m_undoAt m_letterMany m_readAt m_tokenAt m_token m_newNodes m_newEvery m_newHalves m_newAge m_newLife m_newFirst m_newLinks m_pathMany m_pathDelay m_seenMany m_now m_undos r_2 e_2) (me_X12_remembers hk.2.1) (mi_X12_remembers hk.2.1) (ml_X12_165 hk.2.1) ((pmn 3 [0, 1, 2] rfl rfl (by decide))) ((pmn 3 [0, 1, 2] rfl rfl (by decide))) 0 rfl rfl rfl hl.1 rfl rfl (Nat.le_of_ble_eq_true rfl) ⟨rfl, rfl, Nat.le_of_ble_eq_true rfl, Nat.le_of_ble_eq_true rfl, Nat.zero_le _, Nat.zero_le _⟩ dX12_rounds_12 (fun H locs w => ?_)
    refine W.eq (g2 := F0 m 15 ls []) rfl ?_
    refine lv_iconst (v := 0) hx hb dX12_rounds_15 (by decide) ?_
    refine lv_istore_n (lv' := [(2, .int 0), (0, .ref a0), (1, .int x1)]) hx hb dX12_rounds_16 rfl hl (by decide) rfl (fun ls hl => ?_)
    refine lv_iconst (v := 0) hx hb dX12_rounds_17 (by decide) ?_
    refine lv_istore_n (lv' := [(3, .int 0), (2, .int 0), (0, .ref a0), (1, .int x1)]) hx hb dX12_rounds_18 rfl hl (by decide) rfl (fun ls hl => ?_)
    obtain ⟨T19, hT19, h⟩ := sat_reg h
    have E19 : ∀ (e2_4 : Int32) (m_now_5 : ar) (H : Heap) (locs : List Loc) (ls : Array Slot), T19 (e2_4, m_now_5) → wd D A s.heap H locs [(a0, .inr (12, [.int m_nodes, .int m_every, .int m_halves, .int m_age, .int m_life, .int m_first, .ref a1, .int r_2.1, .int r_2.2.1, .ref a2, .ref a3, .ref a4, .int m_letterMany, .ref a5, .int m_readAt, .int m_tokenAt, .int m_token, .int m_newNodes, .int m_newEvery, .int m_newHalves, .int m_newAge, .int m_newLife, .int m_newFirst, .int m_newLinks, .ref a6, .int m_pathMany, .int m_pathDelay, .ref a7, .ref a8, .int m_seenMany, .ref a9, .ref a10, .ref a11])), (a1, .inl (cI, 622, .inl m_now_5)), (a2, .inl (cI, 4976, .inl r_2.2.2))] → lv_has ls 6 [(2, .int e2_4)] → W p l e rm_X12_rounds s m args below meth c H locs 0 0 Q (F0 m 87 ls []) := by
      intro e2_4 m_now_5 H locs ls h w hl
      have h := hT19 _ h
      dsimp only at h
      refine lv_iload_n hx hb dX12_rounds_87 rfl (lv_at hl 0 rfl) ?_
      have hR := hC0 _ (sat_some h)
      subst hR
      exact hret _ _ _ _ w dX12_rounds_88
    have L19 : ∀ (n : Nat) (x2_19 : Int32) (x3_19 : Int32) (m_now_19 : ar) (H : Heap) (locs : List Loc) (ls : Array Slot), sat (f_X12_rounds_L19 m_nodes m_every m_halves m_age m_life m_first x1 N n x2_19 x3_19 m_now_19) T19 → wd D A s.heap H locs [(a0, .inr (12, [.int m_nodes, .int m_every, .int m_halves, .int m_age, .int m_life, .int m_first, .ref a1, .int r_2.1, .int r_2.2.1, .ref a2, .ref a3, .ref a4, .int m_letterMany, .ref a5, .int m_readAt, .int m_tokenAt, .int m_token, .int m_newNodes, .int m_newEvery, .int m_newHalves, .int m_newAge, .int m_newLife, .int m_newFirst, .int m_newLinks, .ref a6, .int m_pathMany, .int m_pathDelay, .ref a7, .ref a8, .int m_seenMany, .ref a9, .ref a10, .ref a11])), (a1, .inl (cI, 622, .inl m_now_19)), (a2, .inl (cI, 4976, .inl r_2.2.2))] → lv_has ls 6 [(0, .ref a0), (1, .int x1), (2, .int x2_19), (3, .int x3_19)] → W p l e rm_X12_rounds s m args below meth c H locs 0 0 Q (F0 m 19 ls []) := by
      intro n
      induction n with
      | zero =>
        intro x2_19 x3_19 m_now_19 H locs ls h
        rw [f_X12_rounds_L19] at h
        exact (sat_none h).elim
      | succ n ih =>
        intro x2_19 x3_19 m_now_19 H locs ls h w hl
        rw [f_X12_rounds_L19] at h
        refine lv_iload_n hx hb dX12_rounds_19 rfl (lv_at hl 3 rfl) ?_
        refine lv_iload_n hx hb dX12_rounds_20 rfl (lv_at hl 1 rfl) ?_
        refine lv_aload_n hx hb dX12_rounds_21 rfl (lv_at hl 0 rfl) ?_
        refine gf_X12_7 hx hb hown hk w.1 0 rfl rfl dX12_rounds_22 ?_
        refine lv_imul hx hb dX12_rounds_25 ?_
        refine lv_aload_n hx hb dX12_rounds_26 rfl (lv_at hl 0 rfl) ?_
        refine gf_X12_7 hx hb hown hk w.1 0 rfl rfl dX12_rounds_27 ?_
        refine lv_imul hx hb dX12_rounds_30 ?_
        refine lv_icmp_ge (tgt := 87) hx hb dX12_rounds_31 (by decide) (fun c31 => ?_) (fun c31 => ?_)
        · have h := sat_t c31 h
          exact E19 x2_19 m_now_19 _ _ _ (sat_some h) w (lv_sub hl [2] rfl)
        · have h := sat_f c31 h
          refine lv_iload_n hx hb dX12_rounds_34 rfl (lv_at hl 3 rfl) ?_
          refine lv_aload_n hx hb dX12_rounds_35 rfl (lv_at hl 0 rfl) ?_
          refine gf_X12_7 hx hb hown hk w.1 0 rfl rfl dX12_rounds_36 ?_
          obtain ⟨hz, h⟩ := sat_nz h
          refine lv_idiv hx hb dX12_rounds_39 hz ?_
          refine lv_aload_n hx hb dX12_rounds_40 rfl (lv_at hl 0 rfl) ?_
          refine gf_X12_7 hx hb hown hk w.1 0 rfl rfl dX12_rounds_41 ?_
          obtain ⟨hz, h⟩ := sat_nz h
          refine lv_irem hx hb dX12_rounds_44 hz ?_
          refine lv_istore (lv' := [(4, .int ((x3_19 / m_nodes) - (x3_19 / m_nodes) / m_nodes * m_nodes)), (0, .ref a0), (1, .int x1), (2, .int x2_19), (3, .int x3_19)]) hx hb dX12_rounds_45 hl (by decide) rfl (fun ls hl => ?_)
          refine lv_iload_n hx hb dX12_rounds_47 rfl (lv_at hl 4 rfl) ?_
          refine lv_aload_n hx hb dX12_rounds_48 rfl (lv_at hl 1 rfl) ?_
          refine gf_X12_7 hx hb hown hk w.1 0 rfl rfl dX12_rounds_49 ?_
          obtain ⟨hz, h⟩ := sat_nz h
          refine lv_irem hx hb dX12_rounds_52 hz ?_
          refine lv_istore (lv' := [(5, .int (x3_19 - x3_19 / m_nodes * m_nodes)), (4, .int ((x3_19 / m_nodes) - (x3_19 / m_nodes) / m_nodes * m_nodes)), (0, .ref a0), (1, .int x1), (2, .int x2_19), (3, .int x3_19)]) hx hb dX12_rounds_53 hl (by decide) rfl (fun ls hl => ?_)
          refine lv_iload_n hx hb dX12_rounds_55 rfl (lv_at hl 4 rfl) ?_
          refine lv_iload hx hb dX12_rounds_56 (lv_at hl 1 rfl) ?_
          refine lv_iload hx hb dX12_rounds_58 (lv_at hl 0 rfl) ?_
          refine lv_icmp_eq (tgt := 78) hx hb dX12_rounds_60 (by decide) (fun c60 => ?_) (fun c60 => ?_)
          · have h := sat_t c60 h
            refine lv_iconst (v := 0) hx hb dX12_rounds_78 (by decide) ?_
            refine lv_iadd hx hb dX12_rounds_79 ?_
            refine lv_istore_n (lv' := [(2, .int (x2_19 + 0)), (5, .int (x3_19 - x3_19 / m_nodes * m_nodes)), (4, .int ((x3_19 / m_nodes) - (x3_19 / m_nodes) / m_nodes * m_nodes)), (0, .ref a0), (1, .int x1), (3, .int x3_19)]) hx hb dX12_rounds_80 rfl hl (by decide) rfl (fun ls hl => ?_)
            refine lv_iinc (v := x3_19 + 1) (lv' := [(3, .int (x3_19 + 1)), (2, .int (x2_19 + 0)), (5, .int (x3_19 - x3_19 / m_nodes * m_nodes)), (4, .int ((x3_19 / m_nodes) - (x3_19 / m_nodes) / m_nodes * m_nodes)), (0, .ref a0), (1, .int x1)]) hx hb dX12_rounds_81 hl (k := 5) rfl (congrArg (fun z => x3_19 + z) (by decide)) (by decide) rfl (fun ls hl => ?_)
            refine lv_goto (tgt := 19) hx hb dX12_rounds_84 (by decide) ?_
            exact ih (x2_19 + 0) (x3_19 + 1) m_now_19 _ _ _ h w (lv_sub hl [4, 5, 1, 0] rfl)
          · have h := sat_f c60 h
            refine lv_aload_n hx hb dX12_rounds_63 rfl (lv_at hl 2 rfl) ?_
            refine lv_iload hx hb dX12_rounds_64 (lv_at hl 1 rfl) ?_
            refine lv_iload hx hb dX12_rounds_66 (lv_at hl 0 rfl) ?_
            obtain ⟨r_3, e_3, h⟩ := sat_bind h
            refine cMV (rest := [.int x2_19]) (wr := [(a2, .inl (cI, 4976, .inl r_2.2.2))]) (ws' := [(a0, .inr (12, [.int m_nodes, .int m_every, .int m_halves, .int m_age, .int m_life, .int m_first, .ref a1, .int r_2.1, .int r_2.2.1, .ref a2, .ref a3, .ref a4, .int m_letterMany, .ref a5, .int m_readAt, .int m_tokenAt, .int m_token, .int m_newNodes, .int m_newEvery, .int m_newHalves, .int m_newAge, .int m_newLife, .int m_newFirst, .int m_newLinks, .ref a6, .int m_pathMany, .int m_pathDelay, .ref a7, .ref a8, .int m_seenMany, .ref a9, .ref a10, .ref a11])), (a1, .inl (cI, 622, .inl r_3.2)), (a2, .inl (cI, 4976, .inl r_2.2.2))]) hx hb hml hown hk w hA (k_X12_letter l D cI cZ cK N a0 a1 a2 a3 a4 a5 a6 a7 a8 a9 a10 a11 m_nodes m_every m_halves m_age m_life m_first r_2.1 r_2.2.1 m_letterMany m_readAt m_tokenAt m_token m_newNodes m_newEvery m_newHalves m_newAge m_newLife m_newFirst m_newLinks m_pathMany m_pathDelay m_seenMany m_now_19 ((x3_19 / m_nodes) - (x3_19 / m_nodes) / m_nodes * m_nodes) (x3_19 - x3_19 / m_nodes * m_nodes) r_3 e_3) (me_X12_letter hk.2.1) (mi_X12_letter hk.2.1) (ml_X12_168 hk.2.1) ((pmn 3 [0, 1, 2] rfl rfl (by decide))) ((pmn 3 [0, 1, 2] rfl rfl (by decide))) 0 rfl rfl rfl hl.1 rfl rfl (Nat.le_of_ble_eq_true rfl) ⟨rfl, rfl, Nat.le_of_ble_eq_true rfl, Nat.le_of_ble_eq_true rfl, Nat.zero_le _, Nat.zero_le _⟩ dX12_rounds_68 (fun H locs w => ?_)
            refine W.eq (g2 := F0 m 71 ls [.int r_3.1, .int x2_19]) rfl ?_
            refine lv_if_lt (tgt := 78) hx hb dX12_rounds_71 (by decide) (fun c71 => ?_) (fun c71 => ?_)
            · have h := sat_t c71 h
              refine lv_iconst (v := 0) hx hb dX12_rounds_78 (by decide) ?_
              refine lv_iadd hx hb dX12_rounds_79 ?_
              refine lv_istore_n (lv' := [(2, .int (x2_19 + 0)), (5, .int (x3_19 - x3_19 / m_nodes * m_nodes)), (4, .int ((x3_19 / m_nodes) - (x3_19 / m_nodes) / m_nodes * m_nodes)), (0, .ref a0), (1, .int x1), (3, .int x3_19)]) hx hb dX12_rounds_80 rfl hl (by decide) rfl (fun ls hl => ?_)
              refine lv_iinc (v := x3_19 + 1) (lv' := [(3, .int (x3_19 + 1)), (2, .int (x2_19 + 0)), (5, .int (x3_19 - x3_19 / m_nodes * m_nodes)), (4, .int ((x3_19 / m_nodes) - (x3_19 / m_nodes) / m_nodes * m_nodes)), (0, .ref a0), (1, .int x1)]) hx hb dX12_rounds_81 hl (k := 5) rfl (congrArg (fun z => x3_19 + z) (by decide)) (by decide) rfl (fun ls hl => ?_)
              refine lv_goto (tgt := 19) hx hb dX12_rounds_84 (by decide) ?_
              exact ih (x2_19 + 0) (x3_19 + 1) r_3.2 _ _ _ h w (lv_sub hl [4, 5, 1, 0] rfl)
            · have h := sat_f c71 h
              refine lv_iconst (v := 1) hx hb dX12_rounds_74 (by decide) ?_
              refine lv_goto (tgt := 79) hx hb dX12_rounds_75 (by decide) ?_
              refine lv_iadd hx hb dX12_rounds_79 ?_
              refine lv_istore_n (lv' := [(2, .int (x2_19 + 1)), (5, .int (x3_19 - x3_19 / m_nodes * m_nodes)), (4, .int ((x3_19 / m_nodes) - (x3_19 / m_nodes) / m_nodes * m_nodes)), (0, .ref a0), (1, .int x1), (3, .int x3_19)]) hx hb dX12_rounds_80 rfl hl (by decide) rfl (fun ls hl => ?_)
              refine lv_iinc (v := x3_19 + 1) (lv' := [(3, .int (x3_19 + 1)), (2, .int (x2_19 + 1)), (5, .int (x3_19 - x3_19 / m_nodes * m_nodes)), (4, .int ((x3_19 / m_nodes) - (x3_19 / m_nodes) / m_nodes * m_nodes)), (0, .ref a0), (1, .int x1)]) hx hb dX12_rounds_81 hl (k := 5) rfl (congrArg (fun z => x3_19 + z) (by decide)) (by decide) rfl (fun ls hl => ?_)
              refine lv_goto (tgt := 19) hx hb dX12_rounds_84 (by decide) ?_
              exact ih (x2_19 + 1) (x3_19 + 1) r_3.2 _ _ _ h w (lv_sub hl [4, 5, 1, 0] rfl)
    exact L19 N 0 0 m_now _ _ _ h w (lv_sub hl [2, 3, 1, 0] rfl)
  · have h := sat_t c6 h
    refine lv_iconst (v := (-1)) hx hb dX12_rounds_9 (by decide) ?_
    have hR := hC0 _ (sat_some h)
    subst hR
    exact hret _ _ _ _ w dX12_rounds_10
def f_X12_noGuesses_L2 (x1 : Int32) (x2 : Int32) : Nat → Int32 → ar → Option (ar)
  | 0, _, _ => none
  | n + 1, x3_2, m_now_2 => if 6 ≤ x3_2 then some m_now_2 else Option.bind (f_X12_guessAt x1 x3_2 x2) fun r_1 => ck (inb (406 + r_1) 622) (Option.bind (f_X12_guessAt x2 x3_2 x1) fun r_2 => ck (inb (406 + r_2) 622) (Option.bind (f_X12_guessAt x1 x3_2 x2) fun r_3 => ck (inb (190 + r_3) 622) (Option.bind (f_X12_guessAt x2 x3_2 x1) fun r_4 => ck (inb (190 + r_4) 622) (f_X12_noGuesses_L2 x1 x2 n (x3_2 + 1) (upd (upd (upd (upd m_now_2 (406 + r_1).toNatClampNeg (-1)) (406 + r_2).toNatClampNeg (-1)) (190 + r_3).toNatClampNeg 0) (190 + r_4).toNatClampNeg 0)))))
def f_X12_noGuesses (N : Nat) (m_now : ar) (x1 : Int32) (x2 : Int32) : Option (ar) := Option.bind (f_X12_noGuesses_L2 x1 x2 N 0 m_now) fun s2 => some s2
abbrev rm_X12_noGuesses : Room := { frames := 1, cells := 0, slots := 0, locals := 22 }
set_option maxRecDepth 100000 in
set_option maxHeartbeats 4000000 in
theorem k_X12_noGuesses (l : Launch) (D : va_G) (cI cZ cK : ClassId) (N : Nat) (a0 a1 a2 a3 a4 a5 a6 a7 a8 a9 a10 a11 : Nat) (m_nodes : Int32) (m_every : Int32) (m_halves : Int32) (m_age : Int32) (m_life : Int32) (m_first : Int32) (m_undoMany : Int32) (m_undoAt : Int32) (m_letterMany : Int32) (m_readAt : Int32) (m_tokenAt : Int32) (m_token : Int32) (m_newNodes : Int32) (m_newEvery : Int32) (m_newHalves : Int32) (m_newAge : Int32) (m_newLife : Int32) (m_newFirst : Int32) (m_newLinks : Int32) (m_pathMany : Int32) (m_pathDelay : Int32) (m_seenMany : Int32) (m_now : ar) (x1 : Int32) (x2 : Int32) (R : ar) (h : f_X12_noGuesses N m_now x1 x2 = some R) : Mu l D cI cZ cK yX12_noGuesses cX12_noGuesses 4 none rm_X12_noGuesses [.ref a0, .int x1, .int x2] [(a0, .inr (12, [.int m_nodes, .int m_every, .int m_halves, .int m_age, .int m_life, .int m_first, .ref a1, .int m_undoMany, .int m_undoAt, .ref a2, .ref a3, .ref a4, .int m_letterMany, .ref a5, .int m_readAt, .int m_tokenAt, .int m_token, .int m_newNodes, .int m_newEvery, .int m_newHalves, .int m_newAge, .int m_newLife, .int m_newFirst, .int m_newLinks, .ref a6, .int m_pathMany, .int m_pathDelay, .ref a7, .ref a8, .int m_seenMany, .ref a9, .ref a10, .ref a11])), (a1, .inl (cI, 622, .inl m_now))] none [(a0, .inr (12, [.int m_nodes, .int m_every, .int m_halves, .int m_age, .int m_life, .int m_first, .ref a1, .int m_undoMany, .int m_undoAt, .ref a2, .ref a3, .ref a4, .int m_letterMany, .ref a5, .int m_readAt, .int m_tokenAt, .int m_token, .int m_newNodes, .int m_newEvery, .int m_newHalves, .int m_newAge, .int m_newLife, .int m_newFirst, .int m_newLinks, .ref a6, .int m_pathMany, .int m_pathDelay, .ref a7, .ref a8, .int m_seenMany, .ref a9, .ref a10, .ref a11])), (a1, .inl (cI, 622, .inl R))] := by
  refine mv_of (by decide) (Nat.le_of_ble_eq_true rfl) ?_
  intro p e s m args below meth c Q A ls hx hb hml hown hk hA w hret hl
  have hl : lv_has ls 4 [(0, .ref a0), (1, .int x1), (2, .int x2)] := hl
  obtain ⟨C0, hC0, h⟩ := sat_top h
  unfold f_X12_noGuesses at h
  refine lv_iconst (v := 0) hx hb dX12_noGuesses_0 (by decide) ?_
  refine lv_istore_n (lv' := [(3, .int 0), (0, .ref a0), (1, .int x1), (2, .int x2)]) hx hb dX12_noGuesses_1 rfl hl (by decide) rfl (fun ls hl => ?_)
  obtain ⟨T2, hT2, h⟩ := sat_reg h
  have E2 : ∀ (m_now_5 : ar) (H : Heap) (locs : List Loc) (ls : Array Slot), T2 m_now_5 → wd D A s.heap H locs [(a0, .inr (12, [.int m_nodes, .int m_every, .int m_halves, .int m_age, .int m_life, .int m_first, .ref a1, .int m_undoMany, .int m_undoAt, .ref a2, .ref a3, .ref a4, .int m_letterMany, .ref a5, .int m_readAt, .int m_tokenAt, .int m_token, .int m_newNodes, .int m_newEvery, .int m_newHalves, .int m_newAge, .int m_newLife, .int m_newFirst, .int m_newLinks, .ref a6, .int m_pathMany, .int m_pathDelay, .ref a7, .ref a8, .int m_seenMany, .ref a9, .ref a10, .ref a11])), (a1, .inl (cI, 622, .inl m_now_5))] → lv_has ls 4 [] → W p l e rm_X12_noGuesses s m args below meth c H locs 0 0 Q (F0 m 78 ls []) := by
    intro m_now_5 H locs ls h w hl
    have h := hT2 _ h
    have hR := hC0 _ (sat_some h)
    subst hR
    exact hret _ _ _ _ w dX12_noGuesses_78
  have L2 : ∀ (n : Nat) (x3_2 : Int32) (m_now_2 : ar) (H : Heap) (locs : List Loc) (ls : Array Slot), sat (f_X12_noGuesses_L2 x1 x2 n x3_2 m_now_2) T2 → wd D A s.heap H locs [(a0, .inr (12, [.int m_nodes, .int m_every, .int m_halves, .int m_age, .int m_life, .int m_first, .ref a1, .int m_undoMany, .int m_undoAt, .ref a2, .ref a3, .ref a4, .int m_letterMany, .ref a5, .int m_readAt, .int m_tokenAt, .int m_token, .int m_newNodes, .int m_newEvery, .int m_newHalves, .int m_newAge, .int m_newLife, .int m_newFirst, .int m_newLinks, .ref a6, .int m_pathMany, .int m_pathDelay, .ref a7, .ref a8, .int m_seenMany, .ref a9, .ref a10, .ref a11])), (a1, .inl (cI, 622, .inl m_now_2))] → lv_has ls 4 [(0, .ref a0), (1, .int x1), (2, .int x2), (3, .int x3_2)] → W p l e rm_X12_noGuesses s m args below meth c H locs 0 0 Q (F0 m 2 ls []) := by
    intro n
    induction n with
    | zero =>
      intro x3_2 m_now_2 H locs ls h
      rw [f_X12_noGuesses_L2] at h
      exact (sat_none h).elim
    | succ n ih =>
      intro x3_2 m_now_2 H locs ls h w hl
      rw [f_X12_noGuesses_L2] at h
      refine lv_iload_n hx hb dX12_noGuesses_2 rfl (lv_at hl 3 rfl) ?_
      refine lv_bipush (v := 6) hx hb dX12_noGuesses_3 (by decide) ?_
      refine lv_icmp_ge (tgt := 78) hx hb dX12_noGuesses_5 (by decide) (fun c5 => ?_) (fun c5 => ?_)
      · have h := sat_t c5 h
        exact E2 m_now_2 _ _ _ (sat_some h) w (lv_sub hl [] rfl)
      · have h := sat_f c5 h
        refine lv_aload_n hx hb dX12_noGuesses_8 rfl (lv_at hl 0 rfl) ?_
        refine gf_X12_19 hx hb hown hk w.1 0 rfl rfl dX12_noGuesses_9 ?_
        refine lv_sipush (v := 406) hx hb dX12_noGuesses_12 (by decide) ?_
        refine lv_iload_n hx hb dX12_noGuesses_15 rfl (lv_at hl 1 rfl) ?_
        refine lv_iload_n hx hb dX12_noGuesses_16 rfl (lv_at hl 3 rfl) ?_
        refine lv_iload_n hx hb dX12_noGuesses_17 rfl (lv_at hl 2 rfl) ?_
        obtain ⟨r_1, e_1, h⟩ := sat_bind h
        refine cRS (rest := [.int 406, .ref a1]) hx hb hml hown hk (k_X12_guessAt l D cI cZ cK x1 x3_2 x2 r_1 e_1) (me_X12_guessAt hk.2.1) (ms_X12_guessAt hk.2.1) (ml_X12_139 hk.2.1) (w.1.sub [] rfl) hl.1 rfl rfl (Nat.le_of_ble_eq_true rfl) ⟨rfl, rfl, Nat.le_of_ble_eq_true rfl, Nat.le_of_ble_eq_true rfl, Nat.zero_le _, Nat.zero_le _⟩ dX12_noGuesses_18 ?_
        refine lv_iadd hx hb dX12_noGuesses_21 ?_
        refine lv_iconst (v := (-1)) hx hb dX12_noGuesses_22 (by decide) ?_
        obtain ⟨hi, h⟩ := sat_in h
        refine ra_ist (ws' := [(a0, .inr (12, [.int m_nodes, .int m_every, .int m_halves, .int m_age, .int m_life, .int m_first, .ref a1, .int m_undoMany, .int m_undoAt, .ref a2, .ref a3, .ref a4, .int m_letterMany, .ref a5, .int m_readAt, .int m_tokenAt, .int m_token, .int m_newNodes, .int m_newEvery, .int m_newHalves, .int m_newAge, .int m_newLife, .int m_newFirst, .int m_newLinks, .ref a6, .int m_pathMany, .int m_pathDelay, .ref a7, .ref a8, .int m_seenMany, .ref a9, .ref a10, .ref a11])), (a1, .inl (cI, 622, .inl (upd m_now_2 (406 + r_1).toNatClampNeg (-1))))]) hx hb hk w 1 rfl hi rfl dX12_noGuesses_23 (fun H locs w => ?_)
        refine lv_aload_n hx hb dX12_noGuesses_24 rfl (lv_at hl 0 rfl) ?_
        refine gf_X12_19 hx hb hown hk w.1 0 rfl rfl dX12_noGuesses_25 ?_
        refine lv_sipush (v := 406) hx hb dX12_noGuesses_28 (by decide) ?_
        refine lv_iload_n hx hb dX12_noGuesses_31 rfl (lv_at hl 2 rfl) ?_
        refine lv_iload_n hx hb dX12_noGuesses_32 rfl (lv_at hl 3 rfl) ?_
        refine lv_iload_n hx hb dX12_noGuesses_33 rfl (lv_at hl 1 rfl) ?_
        obtain ⟨r_2, e_2, h⟩ := sat_bind h
        refine cRS (rest := [.int 406, .ref a1]) hx hb hml hown hk (k_X12_guessAt l D cI cZ cK x2 x3_2 x1 r_2 e_2) (me_X12_guessAt hk.2.1) (ms_X12_guessAt hk.2.1) (ml_X12_139 hk.2.1) (w.1.sub [] rfl) hl.1 rfl rfl (Nat.le_of_ble_eq_true rfl) ⟨rfl, rfl, Nat.le_of_ble_eq_true rfl, Nat.le_of_ble_eq_true rfl, Nat.zero_le _, Nat.zero_le _⟩ dX12_noGuesses_34 ?_
        refine lv_iadd hx hb dX12_noGuesses_37 ?_
        refine lv_iconst (v := (-1)) hx hb dX12_noGuesses_38 (by decide) ?_
        obtain ⟨hi, h⟩ := sat_in h
        refine ra_ist (ws' := [(a0, .inr (12, [.int m_nodes, .int m_every, .int m_halves, .int m_age, .int m_life, .int m_first, .ref a1, .int m_undoMany, .int m_undoAt, .ref a2, .ref a3, .ref a4, .int m_letterMany, .ref a5, .int m_readAt, .int m_tokenAt, .int m_token, .int m_newNodes, .int m_newEvery, .int m_newHalves, .int m_newAge, .int m_newLife, .int m_newFirst, .int m_newLinks, .ref a6, .int m_pathMany, .int m_pathDelay, .ref a7, .ref a8, .int m_seenMany, .ref a9, .ref a10, .ref a11])), (a1, .inl (cI, 622, .inl (upd (upd m_now_2 (406 + r_1).toNatClampNeg (-1)) (406 + r_2).toNatClampNeg (-1))))]) hx hb hk w 1 rfl hi rfl dX12_noGuesses_39 (fun H locs w => ?_)
        refine lv_aload_n hx hb dX12_noGuesses_40 rfl (lv_at hl 0 rfl) ?_
        refine gf_X12_19 hx hb hown hk w.1 0 rfl rfl dX12_noGuesses_41 ?_
        refine lv_sipush (v := 190) hx hb dX12_noGuesses_44 (by decide) ?_
        refine lv_iload_n hx hb dX12_noGuesses_47 rfl (lv_at hl 1 rfl) ?_
        refine lv_iload_n hx hb dX12_noGuesses_48 rfl (lv_at hl 3 rfl) ?_
        refine lv_iload_n hx hb dX12_noGuesses_49 rfl (lv_at hl 2 rfl) ?_
        obtain ⟨r_3, e_3, h⟩ := sat_bind h
        refine cRS (rest := [.int 190, .ref a1]) hx hb hml hown hk (k_X12_guessAt l D cI cZ cK x1 x3_2 x2 r_3 e_3) (me_X12_guessAt hk.2.1) (ms_X12_guessAt hk.2.1) (ml_X12_139 hk.2.1) (w.1.sub [] rfl) hl.1 rfl rfl (Nat.le_of_ble_eq_true rfl) ⟨rfl, rfl, Nat.le_of_ble_eq_true rfl, Nat.le_of_ble_eq_true rfl, Nat.zero_le _, Nat.zero_le _⟩ dX12_noGuesses_50 ?_
        refine lv_iadd hx hb dX12_noGuesses_53 ?_
        refine lv_iconst (v := 0) hx hb dX12_noGuesses_54 (by decide) ?_
        obtain ⟨hi, h⟩ := sat_in h
        refine ra_ist (ws' := [(a0, .inr (12, [.int m_nodes, .int m_every, .int m_halves, .int m_age, .int m_life, .int m_first, .ref a1, .int m_undoMany, .int m_undoAt, .ref a2, .ref a3, .ref a4, .int m_letterMany, .ref a5, .int m_readAt, .int m_tokenAt, .int m_token, .int m_newNodes, .int m_newEvery, .int m_newHalves, .int m_newAge, .int m_newLife, .int m_newFirst, .int m_newLinks, .ref a6, .int m_pathMany, .int m_pathDelay, .ref a7, .ref a8, .int m_seenMany, .ref a9, .ref a10, .ref a11])), (a1, .inl (cI, 622, .inl (upd (upd (upd m_now_2 (406 + r_1).toNatClampNeg (-1)) (406 + r_2).toNatClampNeg (-1)) (190 + r_3).toNatClampNeg 0)))]) hx hb hk w 1 rfl hi rfl dX12_noGuesses_55 (fun H locs w => ?_)
        refine lv_aload_n hx hb dX12_noGuesses_56 rfl (lv_at hl 0 rfl) ?_
        refine gf_X12_19 hx hb hown hk w.1 0 rfl rfl dX12_noGuesses_57 ?_
        refine lv_sipush (v := 190) hx hb dX12_noGuesses_60 (by decide) ?_
        refine lv_iload_n hx hb dX12_noGuesses_63 rfl (lv_at hl 2 rfl) ?_
        refine lv_iload_n hx hb dX12_noGuesses_64 rfl (lv_at hl 3 rfl) ?_
        refine lv_iload_n hx hb dX12_noGuesses_65 rfl (lv_at hl 1 rfl) ?_
        obtain ⟨r_4, e_4, h⟩ := sat_bind h
        refine cRS (rest := [.int 190, .ref a1]) hx hb hml hown hk (k_X12_guessAt l D cI cZ cK x2 x3_2 x1 r_4 e_4) (me_X12_guessAt hk.2.1) (ms_X12_guessAt hk.2.1) (ml_X12_139 hk.2.1) (w.1.sub [] rfl) hl.1 rfl rfl (Nat.le_of_ble_eq_true rfl) ⟨rfl, rfl, Nat.le_of_ble_eq_true rfl, Nat.le_of_ble_eq_true rfl, Nat.zero_le _, Nat.zero_le _⟩ dX12_noGuesses_66 ?_
        refine lv_iadd hx hb dX12_noGuesses_69 ?_
        refine lv_iconst (v := 0) hx hb dX12_noGuesses_70 (by decide) ?_
        obtain ⟨hi, h⟩ := sat_in h
        refine ra_ist (ws' := [(a0, .inr (12, [.int m_nodes, .int m_every, .int m_halves, .int m_age, .int m_life, .int m_first, .ref a1, .int m_undoMany, .int m_undoAt, .ref a2, .ref a3, .ref a4, .int m_letterMany, .ref a5, .int m_readAt, .int m_tokenAt, .int m_token, .int m_newNodes, .int m_newEvery, .int m_newHalves, .int m_newAge, .int m_newLife, .int m_newFirst, .int m_newLinks, .ref a6, .int m_pathMany, .int m_pathDelay, .ref a7, .ref a8, .int m_seenMany, .ref a9, .ref a10, .ref a11])), (a1, .inl (cI, 622, .inl (upd (upd (upd (upd m_now_2 (406 + r_1).toNatClampNeg (-1)) (406 + r_2).toNatClampNeg (-1)) (190 + r_3).toNatClampNeg 0) (190 + r_4).toNatClampNeg 0)))]) hx hb hk w 1 rfl hi rfl dX12_noGuesses_71 (fun H locs w => ?_)
        refine lv_iinc (v := x3_2 + 1) (lv' := [(3, .int (x3_2 + 1)), (0, .ref a0), (1, .int x1), (2, .int x2)]) hx hb dX12_noGuesses_72 hl (k := 3) rfl (congrArg (fun z => x3_2 + z) (by decide)) (by decide) rfl (fun ls hl => ?_)
        refine lv_goto (tgt := 2) hx hb dX12_noGuesses_75 (by decide) ?_
        exact ih (x3_2 + 1) (upd (upd (upd (upd m_now_2 (406 + r_1).toNatClampNeg (-1)) (406 + r_2).toNatClampNeg (-1)) (190 + r_3).toNatClampNeg 0) (190 + r_4).toNatClampNeg 0) _ _ _ h w (lv_sub hl [1, 2, 3, 0] rfl)
  exact L2 N 0 m_now _ _ _ h w (lv_sub hl [1, 2, 3, 0] rfl)
def f_X12_cuts (N : Nat) (m_now : ar) (m_undoMany : Int32) (m_undoAt : Int32) (m_undos : ar) (x1 : Int32) : Option (Int32 × Int32 × Int32 × ar × ar) := Option.bind (f_X12_pairOf N m_now x1) fun r_1 => if r_1 = (-9) then some ((-1), m_undoMany, m_undoAt, m_now, m_undos) else Option.bind (f_X12_remembers N m_now m_undoMany m_undoAt m_undos) fun r_2 => ck (inb (118 + r_1) 622) (ck (inb (154 + r_1) 622) (Option.bind (f_X12_noGuesses N (upd (upd m_now (118 + r_1).toNatClampNeg 0) (154 + r_1).toNatClampNeg 0) (r_1 / 6) (r_1 - r_1 / 6 * 6)) fun r_3 => Option.bind (f_X12_linkMany N r_3) fun r_4 => some (r_4, r_2.1, r_2.2.1, r_3, r_2.2.2)))
abbrev rm_X12_cuts : Room := { frames := 2, cells := 0, slots := 0, locals := 45 }
set_option maxRecDepth 100000 in
set_option maxHeartbeats 4000000 in
theorem k_X12_cuts (l : Launch) (D : va_G) (cI cZ cK : ClassId) (N : Nat) (a0 a1 a2 a3 a4 a5 a6 a7 a8 a9 a10 a11 : Nat) (m_nodes : Int32) (m_every : Int32) (m_halves : Int32) (m_age : Int32) (m_life : Int32) (m_first : Int32) (m_undoMany : Int32) (m_undoAt : Int32) (m_letterMany : Int32) (m_readAt : Int32) (m_tokenAt : Int32) (m_token : Int32) (m_newNodes : Int32) (m_newEvery : Int32) (m_newHalves : Int32) (m_newAge : Int32) (m_newLife : Int32) (m_newFirst : Int32) (m_newLinks : Int32) (m_pathMany : Int32) (m_pathDelay : Int32) (m_seenMany : Int32) (m_now : ar) (m_undos : ar) (x1 : Int32) (R : Int32 × Int32 × Int32 × ar × ar) (h : f_X12_cuts N m_now m_undoMany m_undoAt m_undos x1 = some R) : Mu l D cI cZ cK yX12_cuts cX12_cuts 3 (some .int) rm_X12_cuts [.ref a0, .int x1] [(a0, .inr (12, [.int m_nodes, .int m_every, .int m_halves, .int m_age, .int m_life, .int m_first, .ref a1, .int m_undoMany, .int m_undoAt, .ref a2, .ref a3, .ref a4, .int m_letterMany, .ref a5, .int m_readAt, .int m_tokenAt, .int m_token, .int m_newNodes, .int m_newEvery, .int m_newHalves, .int m_newAge, .int m_newLife, .int m_newFirst, .int m_newLinks, .ref a6, .int m_pathMany, .int m_pathDelay, .ref a7, .ref a8, .int m_seenMany, .ref a9, .ref a10, .ref a11])), (a1, .inl (cI, 622, .inl m_now)), (a2, .inl (cI, 4976, .inl m_undos))] (some (.int R.1)) [(a0, .inr (12, [.int m_nodes, .int m_every, .int m_halves, .int m_age, .int m_life, .int m_first, .ref a1, .int R.2.1, .int R.2.2.1, .ref a2, .ref a3, .ref a4, .int m_letterMany, .ref a5, .int m_readAt, .int m_tokenAt, .int m_token, .int m_newNodes, .int m_newEvery, .int m_newHalves, .int m_newAge, .int m_newLife, .int m_newFirst, .int m_newLinks, .ref a6, .int m_pathMany, .int m_pathDelay, .ref a7, .ref a8, .int m_seenMany, .ref a9, .ref a10, .ref a11])), (a1, .inl (cI, 622, .inl R.2.2.2.1)), (a2, .inl (cI, 4976, .inl R.2.2.2.2))] := by
  refine mi_of (by decide) (vp_nar_int _) (Nat.le_of_ble_eq_true rfl) ?_
  intro p e s m args below meth c Q A ls hx hb hml hown hk hA w hret hl
  have hl : lv_has ls 3 [(0, .ref a0), (1, .int x1)] := hl
  obtain ⟨C0, hC0, h⟩ := sat_top h
  unfold f_X12_cuts at h
  refine lv_aload_n hx hb dX12_cuts_0 rfl (lv_at hl 0 rfl) ?_
  refine lv_iload_n hx hb dX12_cuts_1 rfl (lv_at hl 1 rfl) ?_
  obtain ⟨r_1, e_1, h⟩ := sat_bind h
  refine cRV (rest := []) hx hb hml hown hk (k_X12_pairOf l D cI cZ cK N a0 a1 a2 a3 a4 a5 a6 a7 a8 a9 a10 a11 m_nodes m_every m_halves m_age m_life m_first m_undoMany m_undoAt m_letterMany m_readAt m_tokenAt m_token m_newNodes m_newEvery m_newHalves m_newAge m_newLife m_newFirst m_newLinks m_pathMany m_pathDelay m_seenMany m_now x1 r_1 e_1) (me_X12_pairOf hk.2.1) (mi_X12_pairOf hk.2.1) (ml_X12_135 hk.2.1) (w.1.sub [0, 1] rfl) 0 rfl rfl rfl hl.1 rfl rfl (Nat.le_of_ble_eq_true rfl) ⟨rfl, rfl, Nat.le_of_ble_eq_true rfl, Nat.le_of_ble_eq_true rfl, Nat.zero_le _, Nat.zero_le _⟩ dX12_cuts_2 ?_
  refine lv_istore_n (lv' := [(2, .int r_1), (0, .ref a0), (1, .int x1)]) hx hb dX12_cuts_5 rfl hl (by decide) rfl (fun ls hl => ?_)
  refine lv_iload_n hx hb dX12_cuts_6 rfl (lv_at hl 0 rfl) ?_
  refine lv_bipush (v := (-9)) hx hb dX12_cuts_7 (by decide) ?_
  refine lv_icmp_ne (tgt := 14) hx hb dX12_cuts_9 (by decide) (fun c9 => ?_) (fun c9 => ?_)
  · have h := sat_f c9 h
    refine lv_aload_n hx hb dX12_cuts_14 rfl (lv_at hl 1 rfl) ?_
    obtain ⟨r_2, e_2, h⟩ := sat_bind h
    refine cMV (rest := []) (wr := []) (ws' := [(a0, .inr (12, [.int m_nodes, .int m_every, .int m_halves, .int m_age, .int m_life, .int m_first, .ref a1, .int r_2.1, .int r_2.2.1, .ref a2, .ref a3, .ref a4, .int m_letterMany, .ref a5, .int m_readAt, .int m_tokenAt, .int m_token, .int m_newNodes, .int m_newEvery, .int m_newHalves, .int m_newAge, .int m_newLife, .int m_newFirst, .int m_newLinks, .ref a6, .int m_pathMany, .int m_pathDelay, .ref a7, .ref a8, .int m_seenMany, .ref a9, .ref a10, .ref a11])), (a1, .inl (cI, 622, .inl m_now)), (a2, .inl (cI, 4976, .inl r_2.2.2))]) hx hb hml hown hk w hA (k_X12_remembers l D cI cZ cK N a0 a1 a2 a3 a4 a5 a6 a7 a8 a9 a10 a11 m_nodes m_every m_halves m_age m_life m_first m_undoMany m_undoAt m_letterMany m_readAt m_tokenAt m_token m_newNodes m_newEvery m_newHalves m_newAge m_newLife m_newFirst m_newLinks m_pathMany m_pathDelay m_seenMany m_now m_undos r_2 e_2) (me_X12_remembers hk.2.1) (mi_X12_remembers hk.2.1) (ml_X12_165 hk.2.1) ((pmn 3 [0, 1, 2] rfl rfl (by decide))) ((pmn 3 [0, 1, 2] rfl rfl (by decide))) 0 rfl rfl rfl hl.1 rfl rfl (Nat.le_of_ble_eq_true rfl) ⟨rfl, rfl, Nat.le_of_ble_eq_true rfl, Nat.le_of_ble_eq_true rfl, Nat.zero_le _, Nat.zero_le _⟩ dX12_cuts_15 (fun H locs w => ?_)
    refine W.eq (g2 := F0 m 18 ls []) rfl ?_
    refine lv_aload_n hx hb dX12_cuts_18 rfl (lv_at hl 1 rfl) ?_
    refine gf_X12_19 hx hb hown hk w.1 0 rfl rfl dX12_cuts_19 ?_
    refine lv_bipush (v := 118) hx hb dX12_cuts_22 (by decide) ?_
    refine lv_iload_n hx hb dX12_cuts_24 rfl (lv_at hl 0 rfl) ?_
    refine lv_iadd hx hb dX12_cuts_25 ?_
    refine lv_iconst (v := 0) hx hb dX12_cuts_26 (by decide) ?_
    obtain ⟨hi, h⟩ := sat_in h
    refine ra_ist (ws' := [(a0, .inr (12, [.int m_nodes, .int m_every, .int m_halves, .int m_age, .int m_life, .int m_first, .ref a1, .int r_2.1, .int r_2.2.1, .ref a2, .ref a3, .ref a4, .int m_letterMany, .ref a5, .int m_readAt, .int m_tokenAt, .int m_token, .int m_newNodes, .int m_newEvery, .int m_newHalves, .int m_newAge, .int m_newLife, .int m_newFirst, .int m_newLinks, .ref a6, .int m_pathMany, .int m_pathDelay, .ref a7, .ref a8, .int m_seenMany, .ref a9, .ref a10, .ref a11])), (a1, .inl (cI, 622, .inl (upd m_now (118 + r_1).toNatClampNeg 0))), (a2, .inl (cI, 4976, .inl r_2.2.2))]) hx hb hk w 1 rfl hi rfl dX12_cuts_27 (fun H locs w => ?_)
    refine lv_aload_n hx hb dX12_cuts_28 rfl (lv_at hl 1 rfl) ?_
    refine gf_X12_19 hx hb hown hk w.1 0 rfl rfl dX12_cuts_29 ?_
    refine lv_sipush (v := 154) hx hb dX12_cuts_32 (by decide) ?_
    refine lv_iload_n hx hb dX12_cuts_35 rfl (lv_at hl 0 rfl) ?_
    refine lv_iadd hx hb dX12_cuts_36 ?_
    refine lv_iconst (v := 0) hx hb dX12_cuts_37 (by decide) ?_
    obtain ⟨hi, h⟩ := sat_in h
    refine ra_ist (ws' := [(a0, .inr (12, [.int m_nodes, .int m_every, .int m_halves, .int m_age, .int m_life, .int m_first, .ref a1, .int r_2.1, .int r_2.2.1, .ref a2, .ref a3, .ref a4, .int m_letterMany, .ref a5, .int m_readAt, .int m_tokenAt, .int m_token, .int m_newNodes, .int m_newEvery, .int m_newHalves, .int m_newAge, .int m_newLife, .int m_newFirst, .int m_newLinks, .ref a6, .int m_pathMany, .int m_pathDelay, .ref a7, .ref a8, .int m_seenMany, .ref a9, .ref a10, .ref a11])), (a1, .inl (cI, 622, .inl (upd (upd m_now (118 + r_1).toNatClampNeg 0) (154 + r_1).toNatClampNeg 0))), (a2, .inl (cI, 4976, .inl r_2.2.2))]) hx hb hk w 1 rfl hi rfl dX12_cuts_38 (fun H locs w => ?_)
    refine lv_aload_n hx hb dX12_cuts_39 rfl (lv_at hl 1 rfl) ?_
    refine lv_iload_n hx hb dX12_cuts_40 rfl (lv_at hl 0 rfl) ?_
    refine lv_bipush (v := 6) hx hb dX12_cuts_41 (by decide) ?_
    refine lv_idiv hx hb dX12_cuts_43 (by decide) ?_
    refine lv_iload_n hx hb dX12_cuts_44 rfl (lv_at hl 0 rfl) ?_
    refine lv_bipush (v := 6) hx hb dX12_cuts_45 (by decide) ?_
    refine lv_irem hx hb dX12_cuts_47 (by decide) ?_
    obtain ⟨r_3, e_3, h⟩ := sat_bind h
    refine cMV (rest := []) (wr := [(a2, .inl (cI, 4976, .inl r_2.2.2))]) (ws' := [(a0, .inr (12, [.int m_nodes, .int m_every, .int m_halves, .int m_age, .int m_life, .int m_first, .ref a1, .int r_2.1, .int r_2.2.1, .ref a2, .ref a3, .ref a4, .int m_letterMany, .ref a5, .int m_readAt, .int m_tokenAt, .int m_token, .int m_newNodes, .int m_newEvery, .int m_newHalves, .int m_newAge, .int m_newLife, .int m_newFirst, .int m_newLinks, .ref a6, .int m_pathMany, .int m_pathDelay, .ref a7, .ref a8, .int m_seenMany, .ref a9, .ref a10, .ref a11])), (a1, .inl (cI, 622, .inl r_3)), (a2, .inl (cI, 4976, .inl r_2.2.2))]) hx hb hml hown hk w hA (k_X12_noGuesses l D cI cZ cK N a0 a1 a2 a3 a4 a5 a6 a7 a8 a9 a10 a11 m_nodes m_every m_halves m_age m_life m_first r_2.1 r_2.2.1 m_letterMany m_readAt m_tokenAt m_token m_newNodes m_newEvery m_newHalves m_newAge m_newLife m_newFirst m_newLinks m_pathMany m_pathDelay m_seenMany (upd (upd m_now (118 + r_1).toNatClampNeg 0) (154 + r_1).toNatClampNeg 0) (r_1 / 6) (r_1 - r_1 / 6 * 6) r_3 e_3) (me_X12_noGuesses hk.2.1) (mi_X12_noGuesses hk.2.1) (ml_X12_171 hk.2.1) ((pmn 3 [0, 1, 2] rfl rfl (by decide))) ((pmn 3 [0, 1, 2] rfl rfl (by decide))) 0 rfl rfl rfl hl.1 rfl rfl (Nat.le_of_ble_eq_true rfl) ⟨rfl, rfl, Nat.le_of_ble_eq_true rfl, Nat.le_of_ble_eq_true rfl, Nat.zero_le _, Nat.zero_le _⟩ dX12_cuts_48 (fun H locs w => ?_)
    refine W.eq (g2 := F0 m 51 ls []) rfl ?_
    refine lv_aload_n hx hb dX12_cuts_51 rfl (lv_at hl 1 rfl) ?_
    obtain ⟨r_4, e_4, h⟩ := sat_bind h
    refine cRV (rest := []) hx hb hml hown hk (k_X12_linkMany l D cI cZ cK N a0 a1 a2 a3 a4 a5 a6 a7 a8 a9 a10 a11 m_nodes m_every m_halves m_age m_life m_first r_2.1 r_2.2.1 m_letterMany m_readAt m_tokenAt m_token m_newNodes m_newEvery m_newHalves m_newAge m_newLife m_newFirst m_newLinks m_pathMany m_pathDelay m_seenMany r_3 r_4 e_4) (me_X12_linkMany hk.2.1) (mi_X12_linkMany hk.2.1) (ml_X12_175 hk.2.1) (w.1.sub [0, 1] rfl) 0 rfl rfl rfl hl.1 rfl rfl (Nat.le_of_ble_eq_true rfl) ⟨rfl, rfl, Nat.le_of_ble_eq_true rfl, Nat.le_of_ble_eq_true rfl, Nat.zero_le _, Nat.zero_le _⟩ dX12_cuts_52 ?_
    have hR := hC0 _ (sat_some h)
    subst hR
    exact hret _ _ _ _ w dX12_cuts_55
  · have h := sat_t c9 h
    refine lv_iconst (v := (-1)) hx hb dX12_cuts_12 (by decide) ?_
    have hR := hC0 _ (sat_some h)
    subst hR
    exact hret _ _ _ _ w dX12_cuts_13
def f_X12_lays (N : Nat) (m_nodes : Int32) (m_now : ar) (m_undoMany : Int32) (m_undoAt : Int32) (m_undos : ar) (x1 : Int32) (x2 : Int32) (x3 : Int32) : Option (Int32 × Int32 × Int32 × ar × ar) := Option.bind (f_X12_isNode m_nodes x1) fun r_1 => if (b2i r_1) = 0 then some ((-1), m_undoMany, m_undoAt, m_now, m_undos) else Option.bind (f_X12_isNode m_nodes x2) fun r_2 => if (b2i r_2) = 0 then some ((-1), m_undoMany, m_undoAt, m_now, m_undos) else if x1 = x2 then some ((-1), m_undoMany, m_undoAt, m_now, m_undos) else Option.bind (f_X12_in x3 1 9) fun r_3 => if (b2i r_3) = 0 then some ((-1), m_undoMany, m_undoAt, m_now, m_undos) else Option.bind (f_X12_delay m_now x1 x2) fun r_4 => if r_4 ≤ 0 then Option.bind (f_X12_linkMany N m_now) fun r_5 => if r_5 = 10 then some ((-3), m_undoMany, m_undoAt, m_now, m_undos) else Option.bind (f_X12_remembers N m_now m_undoMany m_undoAt m_undos) fun r_6 => Option.bind (f_X12_pair x1 x2) fun r_7 => ck (inb (118 + r_7) 622) (Option.bind (f_X12_linkMany N (upd m_now (118 + r_7).toNatClampNeg x3)) fun r_8 => some (r_8, r_6.1, r_6.2.1, upd m_now (118 + r_7).toNatClampNeg x3, r_6.2.2)) else some ((-2), m_undoMany, m_undoAt, m_now, m_undos)
abbrev rm_X12_lays : Room := { frames := 2, cells := 0, slots := 0, locals := 43 }
set_option maxRecDepth 100000 in
set_option maxHeartbeats 4000000 in
theorem k_X12_lays (l : Launch) (D : va_G) (cI cZ cK : ClassId) (N : Nat) (a0 a1 a2 a3 a4 a5 a6 a7 a8 a9 a10 a11 : Nat) (m_nodes : Int32) (m_every : Int32) (m_halves : Int32) (m_age : Int32) (m_life : Int32) (m_first : Int32) (m_undoMany : Int32) (m_undoAt : Int32) (m_letterMany : Int32) (m_readAt : Int32) (m_tokenAt : Int32) (m_token : Int32) (m_newNodes : Int32) (m_newEvery : Int32) (m_newHalves : Int32) (m_newAge : Int32) (m_newLife : Int32) (m_newFirst : Int32) (m_newLinks : Int32) (m_pathMany : Int32) (m_pathDelay : Int32) (m_seenMany : Int32) (m_now : ar) (m_undos : ar) (x1 : Int32) (x2 : Int32) (x3 : Int32) (R : Int32 × Int32 × Int32 × ar × ar) (h : f_X12_lays N m_nodes m_now m_undoMany m_undoAt m_undos x1 x2 x3 = some R) : Mu l D cI cZ cK yX12_lays cX12_lays 4 (some .int) rm_X12_lays [.ref a0, .int x1, .int x2, .int x3] [(a0, .inr (12, [.int m_nodes, .int m_every, .int m_halves, .int m_age, .int m_life, .int m_first, .ref a1, .int m_undoMany, .int m_undoAt, .ref a2, .ref a3, .ref a4, .int m_letterMany, .ref a5, .int m_readAt, .int m_tokenAt, .int m_token, .int m_newNodes, .int m_newEvery, .int m_newHalves, .int m_newAge, .int m_newLife, .int m_newFirst, .int m_newLinks, .ref a6, .int m_pathMany, .int m_pathDelay, .ref a7, .ref a8, .int m_seenMany, .ref a9, .ref a10, .ref a11])), (a1, .inl (cI, 622, .inl m_now)), (a2, .inl (cI, 4976, .inl m_undos))] (some (.int R.1)) [(a0, .inr (12, [.int m_nodes, .int m_every, .int m_halves, .int m_age, .int m_life, .int m_first, .ref a1, .int R.2.1, .int R.2.2.1, .ref a2, .ref a3, .ref a4, .int m_letterMany, .ref a5, .int m_readAt, .int m_tokenAt, .int m_token, .int m_newNodes, .int m_newEvery, .int m_newHalves, .int m_newAge, .int m_newLife, .int m_newFirst, .int m_newLinks, .ref a6, .int m_pathMany, .int m_pathDelay, .ref a7, .ref a8, .int m_seenMany, .ref a9, .ref a10, .ref a11])), (a1, .inl (cI, 622, .inl R.2.2.2.1)), (a2, .inl (cI, 4976, .inl R.2.2.2.2))] := by
  refine mi_of (by decide) (vp_nar_int _) (Nat.le_of_ble_eq_true rfl) ?_
  intro p e s m args below meth c Q A ls hx hb hml hown hk hA w hret hl
  have hl : lv_has ls 4 [(0, .ref a0), (1, .int x1), (2, .int x2), (3, .int x3)] := hl
  obtain ⟨C0, hC0, h⟩ := sat_top h
  unfold f_X12_lays at h
  refine lv_aload_n hx hb dX12_lays_0 rfl (lv_at hl 0 rfl) ?_
  refine lv_iload_n hx hb dX12_lays_1 rfl (lv_at hl 1 rfl) ?_
  obtain ⟨r_1, e_1, h⟩ := sat_bind h
  refine cRV (rest := []) hx hb hml hown hk (k_X12_isNode l D cI cZ cK a0 a1 a2 a3 a4 a5 a6 a7 a8 a9 a10 a11 m_nodes m_every m_halves m_age m_life m_first m_undoMany m_undoAt m_letterMany m_readAt m_tokenAt m_token m_newNodes m_newEvery m_newHalves m_newAge m_newLife m_newFirst m_newLinks m_pathMany m_pathDelay m_seenMany x1 r_1 e_1) (me_X12_isNode hk.2.1) (mi_X12_isNode hk.2.1) (ml_X12_162 hk.2.1) (w.1.sub [0] rfl) 0 rfl rfl rfl hl.1 rfl rfl (Nat.le_of_ble_eq_true rfl) ⟨rfl, rfl, Nat.le_of_ble_eq_true rfl, Nat.le_of_ble_eq_true rfl, Nat.zero_le _, Nat.zero_le _⟩ dX12_lays_2 ?_
  refine lv_if_eq (tgt := 31) hx hb dX12_lays_5 (by decide) (fun c5 => ?_) (fun c5 => ?_)
  · have h := sat_t c5 h
    refine lv_iconst (v := (-1)) hx hb dX12_lays_31 (by decide) ?_
    have hR := hC0 _ (sat_some h)
    subst hR
    exact hret _ _ _ _ w dX12_lays_32
  · have h := sat_f c5 h
    refine lv_aload_n hx hb dX12_lays_8 rfl (lv_at hl 0 rfl) ?_
    refine lv_iload_n hx hb dX12_lays_9 rfl (lv_at hl 2 rfl) ?_
    obtain ⟨r_2, e_2, h⟩ := sat_bind h
    refine cRV (rest := []) hx hb hml hown hk (k_X12_isNode l D cI cZ cK a0 a1 a2 a3 a4 a5 a6 a7 a8 a9 a10 a11 m_nodes m_every m_halves m_age m_life m_first m_undoMany m_undoAt m_letterMany m_readAt m_tokenAt m_token m_newNodes m_newEvery m_newHalves m_newAge m_newLife m_newFirst m_newLinks m_pathMany m_pathDelay m_seenMany x2 r_2 e_2) (me_X12_isNode hk.2.1) (mi_X12_isNode hk.2.1) (ml_X12_162 hk.2.1) (w.1.sub [0] rfl) 0 rfl rfl rfl hl.1 rfl rfl (Nat.le_of_ble_eq_true rfl) ⟨rfl, rfl, Nat.le_of_ble_eq_true rfl, Nat.le_of_ble_eq_true rfl, Nat.zero_le _, Nat.zero_le _⟩ dX12_lays_10 ?_
    refine lv_if_eq (tgt := 31) hx hb dX12_lays_13 (by decide) (fun c13 => ?_) (fun c13 => ?_)
    · have h := sat_t c13 h
      refine lv_iconst (v := (-1)) hx hb dX12_lays_31 (by decide) ?_
      have hR := hC0 _ (sat_some h)
      subst hR
      exact hret _ _ _ _ w dX12_lays_32
    · have h := sat_f c13 h
      refine lv_iload_n hx hb dX12_lays_16 rfl (lv_at hl 1 rfl) ?_
      refine lv_iload_n hx hb dX12_lays_17 rfl (lv_at hl 2 rfl) ?_
      refine lv_icmp_eq (tgt := 31) hx hb dX12_lays_18 (by decide) (fun c18 => ?_) (fun c18 => ?_)
      · have h := sat_t c18 h
        refine lv_iconst (v := (-1)) hx hb dX12_lays_31 (by decide) ?_
        have hR := hC0 _ (sat_some h)
        subst hR
        exact hret _ _ _ _ w dX12_lays_32
      · have h := sat_f c18 h
        refine lv_iload_n hx hb dX12_lays_21 rfl (lv_at hl 3 rfl) ?_
        refine lv_iconst (v := 1) hx hb dX12_lays_22 (by decide) ?_
        refine lv_bipush (v := 9) hx hb dX12_lays_23 (by decide) ?_
        obtain ⟨r_3, e_3, h⟩ := sat_bind h
        refine cRS (rest := []) hx hb hml hown hk (k_X12_in l D cI cZ cK x3 1 9 r_3 e_3) (me_X12_in hk.2.1) (ms_X12_in hk.2.1) (ml_X12_58 hk.2.1) (w.1.sub [] rfl) hl.1 rfl rfl (Nat.le_of_ble_eq_true rfl) ⟨rfl, rfl, Nat.le_of_ble_eq_true rfl, Nat.le_of_ble_eq_true rfl, Nat.zero_le _, Nat.zero_le _⟩ dX12_lays_25 ?_
        refine lv_if_ne (tgt := 33) hx hb dX12_lays_28 (by decide) (fun c28 => ?_) (fun c28 => ?_)
        · have h := sat_f c28 h
          refine lv_aload_n hx hb dX12_lays_33 rfl (lv_at hl 0 rfl) ?_
          refine lv_iload_n hx hb dX12_lays_34 rfl (lv_at hl 1 rfl) ?_
          refine lv_iload_n hx hb dX12_lays_35 rfl (lv_at hl 2 rfl) ?_
          obtain ⟨r_4, e_4, h⟩ := sat_bind h
          refine cRV (rest := []) hx hb hml hown hk (k_X12_delay l D cI cZ cK a0 a1 a2 a3 a4 a5 a6 a7 a8 a9 a10 a11 m_nodes m_every m_halves m_age m_life m_first m_undoMany m_undoAt m_letterMany m_readAt m_tokenAt m_token m_newNodes m_newEvery m_newHalves m_newAge m_newLife m_newFirst m_newLinks m_pathMany m_pathDelay m_seenMany m_now x1 x2 r_4 e_4) (me_X12_delay hk.2.1) (mi_X12_delay hk.2.1) (ml_X12_143 hk.2.1) (w.1.sub [0, 1] rfl) 0 rfl rfl rfl hl.1 rfl rfl (Nat.le_of_ble_eq_true rfl) ⟨rfl, rfl, Nat.le_of_ble_eq_true rfl, Nat.le_of_ble_eq_true rfl, Nat.zero_le _, Nat.zero_le _⟩ dX12_lays_36 ?_
          refine lv_if_le (tgt := 45) hx hb dX12_lays_39 (by decide) (fun c39 => ?_) (fun c39 => ?_)
          · have h := sat_t c39 h
            refine lv_aload_n hx hb dX12_lays_45 rfl (lv_at hl 0 rfl) ?_
            obtain ⟨r_5, e_5, h⟩ := sat_bind h
            refine cRV (rest := []) hx hb hml hown hk (k_X12_linkMany l D cI cZ cK N a0 a1 a2 a3 a4 a5 a6 a7 a8 a9 a10 a11 m_nodes m_every m_halves m_age m_life m_first m_undoMany m_undoAt m_letterMany m_readAt m_tokenAt m_token m_newNodes m_newEvery m_newHalves m_newAge m_newLife m_newFirst m_newLinks m_pathMany m_pathDelay m_seenMany m_now r_5 e_5) (me_X12_linkMany hk.2.1) (mi_X12_linkMany hk.2.1) (ml_X12_175 hk.2.1) (w.1.sub [0, 1] rfl) 0 rfl rfl rfl hl.1 rfl rfl (Nat.le_of_ble_eq_true rfl) ⟨rfl, rfl, Nat.le_of_ble_eq_true rfl, Nat.le_of_ble_eq_true rfl, Nat.zero_le _, Nat.zero_le _⟩ dX12_lays_46 ?_
            refine lv_bipush (v := 10) hx hb dX12_lays_49 (by decide) ?_
            refine lv_icmp_ne (tgt := 57) hx hb dX12_lays_51 (by decide) (fun c51 => ?_) (fun c51 => ?_)
            · have h := sat_f c51 h
              refine lv_aload_n hx hb dX12_lays_57 rfl (lv_at hl 0 rfl) ?_
              obtain ⟨r_6, e_6, h⟩ := sat_bind h
              refine cMV (rest := []) (wr := []) (ws' := [(a0, .inr (12, [.int m_nodes, .int m_every, .int m_halves, .int m_age, .int m_life, .int m_first, .ref a1, .int r_6.1, .int r_6.2.1, .ref a2, .ref a3, .ref a4, .int m_letterMany, .ref a5, .int m_readAt, .int m_tokenAt, .int m_token, .int m_newNodes, .int m_newEvery, .int m_newHalves, .int m_newAge, .int m_newLife, .int m_newFirst, .int m_newLinks, .ref a6, .int m_pathMany, .int m_pathDelay, .ref a7, .ref a8, .int m_seenMany, .ref a9, .ref a10, .ref a11])), (a1, .inl (cI, 622, .inl m_now)), (a2, .inl (cI, 4976, .inl r_6.2.2))]) hx hb hml hown hk w hA (k_X12_remembers l D cI cZ cK N a0 a1 a2 a3 a4 a5 a6 a7 a8 a9 a10 a11 m_nodes m_every m_halves m_age m_life m_first m_undoMany m_undoAt m_letterMany m_readAt m_tokenAt m_token m_newNodes m_newEvery m_newHalves m_newAge m_newLife m_newFirst m_newLinks m_pathMany m_pathDelay m_seenMany m_now m_undos r_6 e_6) (me_X12_remembers hk.2.1) (mi_X12_remembers hk.2.1) (ml_X12_165 hk.2.1) ((pmn 3 [0, 1, 2] rfl rfl (by decide))) ((pmn 3 [0, 1, 2] rfl rfl (by decide))) 0 rfl rfl rfl hl.1 rfl rfl (Nat.le_of_ble_eq_true rfl) ⟨rfl, rfl, Nat.le_of_ble_eq_true rfl, Nat.le_of_ble_eq_true rfl, Nat.zero_le _, Nat.zero_le _⟩ dX12_lays_58 (fun H locs w => ?_)
              refine W.eq (g2 := F0 m 61 ls []) rfl ?_
              refine lv_aload_n hx hb dX12_lays_61 rfl (lv_at hl 0 rfl) ?_
              refine gf_X12_19 hx hb hown hk w.1 0 rfl rfl dX12_lays_62 ?_
              refine lv_bipush (v := 118) hx hb dX12_lays_65 (by decide) ?_
              refine lv_iload_n hx hb dX12_lays_67 rfl (lv_at hl 1 rfl) ?_
              refine lv_iload_n hx hb dX12_lays_68 rfl (lv_at hl 2 rfl) ?_
              obtain ⟨r_7, e_7, h⟩ := sat_bind h
              refine cRS (rest := [.int 118, .ref a1]) hx hb hml hown hk (k_X12_pair l D cI cZ cK x1 x2 r_7 e_7) (me_X12_pair hk.2.1) (ms_X12_pair hk.2.1) (ml_X12_62 hk.2.1) (w.1.sub [] rfl) hl.1 rfl rfl (Nat.le_of_ble_eq_true rfl) ⟨rfl, rfl, Nat.le_of_ble_eq_true rfl, Nat.le_of_ble_eq_true rfl, Nat.zero_le _, Nat.zero_le _⟩ dX12_lays_69 ?_
              refine lv_iadd hx hb dX12_lays_72 ?_
              refine lv_iload_n hx hb dX12_lays_73 rfl (lv_at hl 3 rfl) ?_
              obtain ⟨hi, h⟩ := sat_in h
              refine ra_ist (ws' := [(a0, .inr (12, [.int m_nodes, .int m_every, .int m_halves, .int m_age, .int m_life, .int m_first, .ref a1, .int r_6.1, .int r_6.2.1, .ref a2, .ref a3, .ref a4, .int m_letterMany, .ref a5, .int m_readAt, .int m_tokenAt, .int m_token, .int m_newNodes, .int m_newEvery, .int m_newHalves, .int m_newAge, .int m_newLife, .int m_newFirst, .int m_newLinks, .ref a6, .int m_pathMany, .int m_pathDelay, .ref a7, .ref a8, .int m_seenMany, .ref a9, .ref a10, .ref a11])), (a1, .inl (cI, 622, .inl (upd m_now (118 + r_7).toNatClampNeg x3))), (a2, .inl (cI, 4976, .inl r_6.2.2))]) hx hb hk w 1 rfl hi rfl dX12_lays_74 (fun H locs w => ?_)
              refine lv_aload_n hx hb dX12_lays_75 rfl (lv_at hl 0 rfl) ?_
              obtain ⟨r_8, e_8, h⟩ := sat_bind h
              refine cRV (rest := []) hx hb hml hown hk (k_X12_linkMany l D cI cZ cK N a0 a1 a2 a3 a4 a5 a6 a7 a8 a9 a10 a11 m_nodes m_every m_halves m_age m_life m_first r_6.1 r_6.2.1 m_letterMany m_readAt m_tokenAt m_token m_newNodes m_newEvery m_newHalves m_newAge m_newLife m_newFirst m_newLinks m_pathMany m_pathDelay m_seenMany (upd m_now (118 + r_7).toNatClampNeg x3) r_8 e_8) (me_X12_linkMany hk.2.1) (mi_X12_linkMany hk.2.1) (ml_X12_175 hk.2.1) (w.1.sub [0, 1] rfl) 0 rfl rfl rfl hl.1 rfl rfl (Nat.le_of_ble_eq_true rfl) ⟨rfl, rfl, Nat.le_of_ble_eq_true rfl, Nat.le_of_ble_eq_true rfl, Nat.zero_le _, Nat.zero_le _⟩ dX12_lays_76 ?_
              have hR := hC0 _ (sat_some h)
              subst hR
              exact hret _ _ _ _ w dX12_lays_79
            · have h := sat_t c51 h
              refine lv_bipush (v := (-3)) hx hb dX12_lays_54 (by decide) ?_
              have hR := hC0 _ (sat_some h)
              subst hR
              exact hret _ _ _ _ w dX12_lays_56
          · have h := sat_f c39 h
            refine lv_bipush (v := (-2)) hx hb dX12_lays_42 (by decide) ?_
            have hR := hC0 _ (sat_some h)
            subst hR
            exact hret _ _ _ _ w dX12_lays_44
        · have h := sat_t c28 h
          refine lv_iconst (v := (-1)) hx hb dX12_lays_31 (by decide) ?_
          have hR := hC0 _ (sat_some h)
          subst hR
          exact hret _ _ _ _ w dX12_lays_32
def f_X12_changes (N : Nat) (m_now : ar) (m_undoMany : Int32) (m_undoAt : Int32) (m_undos : ar) (x1 : Int32) (x2 : Int32) : Option (Int32 × Int32 × Int32 × ar × ar) := Option.bind (f_X12_pairOf N m_now x1) fun r_1 => if r_1 = (-9) then some ((-1), m_undoMany, m_undoAt, m_now, m_undos) else Option.bind (f_X12_in x2 1 9) fun r_2 => if (b2i r_2) = 0 then some ((-1), m_undoMany, m_undoAt, m_now, m_undos) else ck (inb (118 + r_1) 622) (if (m_now (118 + r_1).toNatClampNeg) = x2 then some ((-2), m_undoMany, m_undoAt, m_now, m_undos) else Option.bind (f_X12_remembers N m_now m_undoMany m_undoAt m_undos) fun r_3 => ck (inb (118 + r_1) 622) (some (m_now (118 + r_1).toNatClampNeg, r_3.1, r_3.2.1, upd m_now (118 + r_1).toNatClampNeg x2, r_3.2.2)))
abbrev rm_X12_changes : Room := { frames := 1, cells := 0, slots := 0, locals := 23 }
set_option maxRecDepth 100000 in
set_option maxHeartbeats 4000000 in
theorem k_X12_changes (l : Launch) (D : va_G) (cI cZ cK : ClassId) (N : Nat) (a0 a1 a2 a3 a4 a5 a6 a7 a8 a9 a10 a11 : Nat) (m_nodes : Int32) (m_every : Int32) (m_halves : Int32) (m_age : Int32) (m_life : Int32) (m_first : Int32) (m_undoMany : Int32) (m_undoAt : Int32) (m_letterMany : Int32) (m_readAt : Int32) (m_tokenAt : Int32) (m_token : Int32) (m_newNodes : Int32) (m_newEvery : Int32) (m_newHalves : Int32) (m_newAge : Int32) (m_newLife : Int32) (m_newFirst : Int32) (m_newLinks : Int32) (m_pathMany : Int32) (m_pathDelay : Int32) (m_seenMany : Int32) (m_now : ar) (m_undos : ar) (x1 : Int32) (x2 : Int32) (R : Int32 × Int32 × Int32 × ar × ar) (h : f_X12_changes N m_now m_undoMany m_undoAt m_undos x1 x2 = some R) : Mu l D cI cZ cK yX12_changes cX12_changes 5 (some .int) rm_X12_changes [.ref a0, .int x1, .int x2] [(a0, .inr (12, [.int m_nodes, .int m_every, .int m_halves, .int m_age, .int m_life, .int m_first, .ref a1, .int m_undoMany, .int m_undoAt, .ref a2, .ref a3, .ref a4, .int m_letterMany, .ref a5, .int m_readAt, .int m_tokenAt, .int m_token, .int m_newNodes, .int m_newEvery, .int m_newHalves, .int m_newAge, .int m_newLife, .int m_newFirst, .int m_newLinks, .ref a6, .int m_pathMany, .int m_pathDelay, .ref a7, .ref a8, .int m_seenMany, .ref a9, .ref a10, .ref a11])), (a1, .inl (cI, 622, .inl m_now)), (a2, .inl (cI, 4976, .inl m_undos))] (some (.int R.1)) [(a0, .inr (12, [.int m_nodes, .int m_every, .int m_halves, .int m_age, .int m_life, .int m_first, .ref a1, .int R.2.1, .int R.2.2.1, .ref a2, .ref a3, .ref a4, .int m_letterMany, .ref a5, .int m_readAt, .int m_tokenAt, .int m_token, .int m_newNodes, .int m_newEvery, .int m_newHalves, .int m_newAge, .int m_newLife, .int m_newFirst, .int m_newLinks, .ref a6, .int m_pathMany, .int m_pathDelay, .ref a7, .ref a8, .int m_seenMany, .ref a9, .ref a10, .ref a11])), (a1, .inl (cI, 622, .inl R.2.2.2.1)), (a2, .inl (cI, 4976, .inl R.2.2.2.2))] := by
  refine mi_of (by decide) (vp_nar_int _) (Nat.le_of_ble_eq_true rfl) ?_
  intro p e s m args below meth c Q A ls hx hb hml hown hk hA w hret hl
  have hl : lv_has ls 5 [(0, .ref a0), (1, .int x1), (2, .int x2)] := hl
  obtain ⟨C0, hC0, h⟩ := sat_top h
  unfold f_X12_changes at h
  refine lv_aload_n hx hb dX12_changes_0 rfl (lv_at hl 0 rfl) ?_
  refine lv_iload_n hx hb dX12_changes_1 rfl (lv_at hl 1 rfl) ?_
  obtain ⟨r_1, e_1, h⟩ := sat_bind h
  refine cRV (rest := []) hx hb hml hown hk (k_X12_pairOf l D cI cZ cK N a0 a1 a2 a3 a4 a5 a6 a7 a8 a9 a10 a11 m_nodes m_every m_halves m_age m_life m_first m_undoMany m_undoAt m_letterMany m_readAt m_tokenAt m_token m_newNodes m_newEvery m_newHalves m_newAge m_newLife m_newFirst m_newLinks m_pathMany m_pathDelay m_seenMany m_now x1 r_1 e_1) (me_X12_pairOf hk.2.1) (mi_X12_pairOf hk.2.1) (ml_X12_135 hk.2.1) (w.1.sub [0, 1] rfl) 0 rfl rfl rfl hl.1 rfl rfl (Nat.le_of_ble_eq_true rfl) ⟨rfl, rfl, Nat.le_of_ble_eq_true rfl, Nat.le_of_ble_eq_true rfl, Nat.zero_le _, Nat.zero_le _⟩ dX12_changes_2 ?_
  refine lv_istore_n (lv' := [(3, .int r_1), (0, .ref a0), (1, .int x1), (2, .int x2)]) hx hb dX12_changes_5 rfl hl (by decide) rfl (fun ls hl => ?_)
  refine lv_iload_n hx hb dX12_changes_6 rfl (lv_at hl 0 rfl) ?_
  refine lv_bipush (v := (-9)) hx hb dX12_changes_7 (by decide) ?_
  refine lv_icmp_eq (tgt := 22) hx hb dX12_changes_9 (by decide) (fun c9 => ?_) (fun c9 => ?_)
  · have h := sat_t c9 h
    refine lv_iconst (v := (-1)) hx hb dX12_changes_22 (by decide) ?_
    have hR := hC0 _ (sat_some h)
    subst hR
    exact hret _ _ _ _ w dX12_changes_23
  · have h := sat_f c9 h
    refine lv_iload_n hx hb dX12_changes_12 rfl (lv_at hl 3 rfl) ?_
    refine lv_iconst (v := 1) hx hb dX12_changes_13 (by decide) ?_
    refine lv_bipush (v := 9) hx hb dX12_changes_14 (by decide) ?_
    obtain ⟨r_2, e_2, h⟩ := sat_bind h
    refine cRS (rest := []) hx hb hml hown hk (k_X12_in l D cI cZ cK x2 1 9 r_2 e_2) (me_X12_in hk.2.1) (ms_X12_in hk.2.1) (ml_X12_58 hk.2.1) (w.1.sub [] rfl) hl.1 rfl rfl (Nat.le_of_ble_eq_true rfl) ⟨rfl, rfl, Nat.le_of_ble_eq_true rfl, Nat.le_of_ble_eq_true rfl, Nat.zero_le _, Nat.zero_le _⟩ dX12_changes_16 ?_
    refine lv_if_ne (tgt := 24) hx hb dX12_changes_19 (by decide) (fun c19 => ?_) (fun c19 => ?_)
    · have h := sat_f c19 h
      refine lv_aload_n hx hb dX12_changes_24 rfl (lv_at hl 1 rfl) ?_
      refine gf_X12_19 hx hb hown hk w.1 0 rfl rfl dX12_changes_25 ?_
      refine lv_bipush (v := 118) hx hb dX12_changes_28 (by decide) ?_
      refine lv_iload_n hx hb dX12_changes_30 rfl (lv_at hl 0 rfl) ?_
      refine lv_iadd hx hb dX12_changes_31 ?_
      obtain ⟨hi, h⟩ := sat_in h
      refine va_iald hx hb hk.1 w.1 1 0 rfl rfl hi dX12_changes_32 ?_
      refine lv_istore (lv' := [(4, .int (m_now (118 + r_1).toNatClampNeg)), (3, .int r_1), (0, .ref a0), (1, .int x1), (2, .int x2)]) hx hb dX12_changes_33 hl (by decide) rfl (fun ls hl => ?_)
      refine lv_iload hx hb dX12_changes_35 (lv_at hl 0 rfl) ?_
      refine lv_iload_n hx hb dX12_changes_37 rfl (lv_at hl 4 rfl) ?_
      refine lv_icmp_ne (tgt := 44) hx hb dX12_changes_38 (by decide) (fun c38 => ?_) (fun c38 => ?_)
      · have h := sat_f c38 h
        refine lv_aload_n hx hb dX12_changes_44 rfl (lv_at hl 2 rfl) ?_
        obtain ⟨r_3, e_3, h⟩ := sat_bind h
        refine cMV (rest := []) (wr := []) (ws' := [(a0, .inr (12, [.int m_nodes, .int m_every, .int m_halves, .int m_age, .int m_life, .int m_first, .ref a1, .int r_3.1, .int r_3.2.1, .ref a2, .ref a3, .ref a4, .int m_letterMany, .ref a5, .int m_readAt, .int m_tokenAt, .int m_token, .int m_newNodes, .int m_newEvery, .int m_newHalves, .int m_newAge, .int m_newLife, .int m_newFirst, .int m_newLinks, .ref a6, .int m_pathMany, .int m_pathDelay, .ref a7, .ref a8, .int m_seenMany, .ref a9, .ref a10, .ref a11])), (a1, .inl (cI, 622, .inl m_now)), (a2, .inl (cI, 4976, .inl r_3.2.2))]) hx hb hml hown hk w hA (k_X12_remembers l D cI cZ cK N a0 a1 a2 a3 a4 a5 a6 a7 a8 a9 a10 a11 m_nodes m_every m_halves m_age m_life m_first m_undoMany m_undoAt m_letterMany m_readAt m_tokenAt m_token m_newNodes m_newEvery m_newHalves m_newAge m_newLife m_newFirst m_newLinks m_pathMany m_pathDelay m_seenMany m_now m_undos r_3 e_3) (me_X12_remembers hk.2.1) (mi_X12_remembers hk.2.1) (ml_X12_165 hk.2.1) ((pmn 3 [0, 1, 2] rfl rfl (by decide))) ((pmn 3 [0, 1, 2] rfl rfl (by decide))) 0 rfl rfl rfl hl.1 rfl rfl (Nat.le_of_ble_eq_true rfl) ⟨rfl, rfl, Nat.le_of_ble_eq_true rfl, Nat.le_of_ble_eq_true rfl, Nat.zero_le _, Nat.zero_le _⟩ dX12_changes_45 (fun H locs w => ?_)
        refine W.eq (g2 := F0 m 48 ls []) rfl ?_
        refine lv_aload_n hx hb dX12_changes_48 rfl (lv_at hl 2 rfl) ?_
        refine gf_X12_19 hx hb hown hk w.1 0 rfl rfl dX12_changes_49 ?_
        refine lv_bipush (v := 118) hx hb dX12_changes_52 (by decide) ?_
        refine lv_iload_n hx hb dX12_changes_54 rfl (lv_at hl 1 rfl) ?_
        refine lv_iadd hx hb dX12_changes_55 ?_
        refine lv_iload_n hx hb dX12_changes_56 rfl (lv_at hl 4 rfl) ?_
        obtain ⟨hi, h⟩ := sat_in h
        refine ra_ist (ws' := [(a0, .inr (12, [.int m_nodes, .int m_every, .int m_halves, .int m_age, .int m_life, .int m_first, .ref a1, .int r_3.1, .int r_3.2.1, .ref a2, .ref a3, .ref a4, .int m_letterMany, .ref a5, .int m_readAt, .int m_tokenAt, .int m_token, .int m_newNodes, .int m_newEvery, .int m_newHalves, .int m_newAge, .int m_newLife, .int m_newFirst, .int m_newLinks, .ref a6, .int m_pathMany, .int m_pathDelay, .ref a7, .ref a8, .int m_seenMany, .ref a9, .ref a10, .ref a11])), (a1, .inl (cI, 622, .inl (upd m_now (118 + r_1).toNatClampNeg x2))), (a2, .inl (cI, 4976, .inl r_3.2.2))]) hx hb hk w 1 rfl hi rfl dX12_changes_57 (fun H locs w => ?_)
        refine lv_iload hx hb dX12_changes_58 (lv_at hl 0 rfl) ?_
        have hR := hC0 _ (sat_some h)
        subst hR
        exact hret _ _ _ _ w dX12_changes_60
      · have h := sat_t c38 h
        refine lv_bipush (v := (-2)) hx hb dX12_changes_41 (by decide) ?_
        have hR := hC0 _ (sat_some h)
        subst hR
        exact hret _ _ _ _ w dX12_changes_43
    · have h := sat_t c19 h
      refine lv_iconst (v := (-1)) hx hb dX12_changes_22 (by decide) ?_
      have hR := hC0 _ (sat_some h)
      subst hR
      exact hret _ _ _ _ w dX12_changes_23
def f_X12_undo_L38 (m_undoAt : Int32) (m_undos : ar) : Nat → Int32 → ar → Option (ar)
  | 0, _, _ => none
  | n + 1, x1_38, m_now_38 => if 622 ≤ x1_38 then some m_now_38 else ck (inb ((622 * (((m_undoAt + 8) - 1) - ((m_undoAt + 8) - 1) / 8 * 8)) + x1_38) 4976) (ck (inb x1_38 622) (f_X12_undo_L38 m_undoAt m_undos n (x1_38 + 1) (upd m_now_38 x1_38.toNatClampNeg (m_undos ((622 * (((m_undoAt + 8) - 1) - ((m_undoAt + 8) - 1) / 8 * 8)) + x1_38).toNatClampNeg))))
def f_X12_undo (N : Nat) (m_now : ar) (m_undoMany : Int32) (m_undoAt : Int32) (m_undos : ar) : Option (Int32 × Int32 × Int32 × ar) := if m_undoMany = 0 then some ((-2), m_undoMany, m_undoAt, m_now) else Option.bind (f_X12_undo_L38 m_undoAt m_undos N 0 m_now) fun s38 => some (m_undoMany - 1, m_undoMany - 1, ((m_undoAt + 8) - 1) - ((m_undoAt + 8) - 1) / 8 * 8, s38)
abbrev rm_X12_undo : Room := { frames := 0, cells := 0, slots := 0, locals := 0 }
set_option maxRecDepth 100000 in
set_option maxHeartbeats 4000000 in
theorem k_X12_undo (l : Launch) (D : va_G) (cI cZ cK : ClassId) (N : Nat) (a0 a1 a2 a3 a4 a5 a6 a7 a8 a9 a10 a11 : Nat) (m_nodes : Int32) (m_every : Int32) (m_halves : Int32) (m_age : Int32) (m_life : Int32) (m_first : Int32) (m_undoMany : Int32) (m_undoAt : Int32) (m_letterMany : Int32) (m_readAt : Int32) (m_tokenAt : Int32) (m_token : Int32) (m_newNodes : Int32) (m_newEvery : Int32) (m_newHalves : Int32) (m_newAge : Int32) (m_newLife : Int32) (m_newFirst : Int32) (m_newLinks : Int32) (m_pathMany : Int32) (m_pathDelay : Int32) (m_seenMany : Int32) (m_now : ar) (m_undos : ar) (R : Int32 × Int32 × Int32 × ar) (h : f_X12_undo N m_now m_undoMany m_undoAt m_undos = some R) : Mu l D cI cZ cK yX12_undo cX12_undo 2 (some .int) rm_X12_undo [.ref a0] [(a0, .inr (12, [.int m_nodes, .int m_every, .int m_halves, .int m_age, .int m_life, .int m_first, .ref a1, .int m_undoMany, .int m_undoAt, .ref a2, .ref a3, .ref a4, .int m_letterMany, .ref a5, .int m_readAt, .int m_tokenAt, .int m_token, .int m_newNodes, .int m_newEvery, .int m_newHalves, .int m_newAge, .int m_newLife, .int m_newFirst, .int m_newLinks, .ref a6, .int m_pathMany, .int m_pathDelay, .ref a7, .ref a8, .int m_seenMany, .ref a9, .ref a10, .ref a11])), (a1, .inl (cI, 622, .inl m_now)), (a2, .inl (cI, 4976, .inl m_undos))] (some (.int R.1)) [(a0, .inr (12, [.int m_nodes, .int m_every, .int m_halves, .int m_age, .int m_life, .int m_first, .ref a1, .int R.2.1, .int R.2.2.1, .ref a2, .ref a3, .ref a4, .int m_letterMany, .ref a5, .int m_readAt, .int m_tokenAt, .int m_token, .int m_newNodes, .int m_newEvery, .int m_newHalves, .int m_newAge, .int m_newLife, .int m_newFirst, .int m_newLinks, .ref a6, .int m_pathMany, .int m_pathDelay, .ref a7, .ref a8, .int m_seenMany, .ref a9, .ref a10, .ref a11])), (a1, .inl (cI, 622, .inl R.2.2.2)), (a2, .inl (cI, 4976, .inl m_undos))] := by
  refine mi_of (by decide) (vp_nar_int _) (Nat.le_of_ble_eq_true rfl) ?_
  intro p e s m args below meth c Q A ls hx hb hml hown hk hA w hret hl
  have hl : lv_has ls 2 [(0, .ref a0)] := hl
  obtain ⟨C0, hC0, h⟩ := sat_top h
  unfold f_X12_undo at h
  refine lv_aload_n hx hb dX12_undo_0 rfl (lv_at hl 0 rfl) ?_
  refine gf_X12_129 hx hb hown hk w.1 0 rfl rfl dX12_undo_1 ?_
  refine lv_if_ne (tgt := 10) hx hb dX12_undo_4 (by decide) (fun c4 => ?_) (fun c4 => ?_)
  · have h := sat_f c4 h
    refine lv_aload_n hx hb dX12_undo_10 rfl (lv_at hl 0 rfl) ?_
    refine lv_aload_n hx hb dX12_undo_11 rfl (lv_at hl 0 rfl) ?_
    refine gf_X12_149 hx hb hown hk w.1 0 rfl rfl dX12_undo_12 ?_
    refine lv_bipush (v := 8) hx hb dX12_undo_15 (by decide) ?_
    refine lv_iadd hx hb dX12_undo_17 ?_
    refine lv_iconst (v := 1) hx hb dX12_undo_18 (by decide) ?_
    refine lv_isub hx hb dX12_undo_19 ?_
    refine lv_bipush (v := 8) hx hb dX12_undo_20 (by decide) ?_
    refine lv_irem hx hb dX12_undo_22 (by decide) ?_
    refine pf_X12_149 (ws' := [(a0, .inr (12, [.int m_nodes, .int m_every, .int m_halves, .int m_age, .int m_life, .int m_first, .ref a1, .int m_undoMany, .int (((m_undoAt + 8) - 1) - ((m_undoAt + 8) - 1) / 8 * 8), .ref a2, .ref a3, .ref a4, .int m_letterMany, .ref a5, .int m_readAt, .int m_tokenAt, .int m_token, .int m_newNodes, .int m_newEvery, .int m_newHalves, .int m_newAge, .int m_newLife, .int m_newFirst, .int m_newLinks, .ref a6, .int m_pathMany, .int m_pathDelay, .ref a7, .ref a8, .int m_seenMany, .ref a9, .ref a10, .ref a11])), (a1, .inl (cI, 622, .inl m_now)), (a2, .inl (cI, 4976, .inl m_undos))]) hx hb hown hk w 0 rfl (Nat.le_of_ble_eq_true rfl) rfl dX12_undo_23 (fun H locs w => ?_)
    refine lv_aload_n hx hb dX12_undo_26 rfl (lv_at hl 0 rfl) ?_
    refine lv_dup hx hb dX12_undo_27 rfl ?_
    refine gf_X12_129 hx hb hown hk w.1 0 rfl rfl dX12_undo_28 ?_
    refine lv_iconst (v := 1) hx hb dX12_undo_31 (by decide) ?_
    refine lv_isub hx hb dX12_undo_32 ?_
    refine pf_X12_129 (ws' := [(a0, .inr (12, [.int m_nodes, .int m_every, .int m_halves, .int m_age, .int m_life, .int m_first, .ref a1, .int (m_undoMany - 1), .int (((m_undoAt + 8) - 1) - ((m_undoAt + 8) - 1) / 8 * 8), .ref a2, .ref a3, .ref a4, .int m_letterMany, .ref a5, .int m_readAt, .int m_tokenAt, .int m_token, .int m_newNodes, .int m_newEvery, .int m_newHalves, .int m_newAge, .int m_newLife, .int m_newFirst, .int m_newLinks, .ref a6, .int m_pathMany, .int m_pathDelay, .ref a7, .ref a8, .int m_seenMany, .ref a9, .ref a10, .ref a11])), (a1, .inl (cI, 622, .inl m_now)), (a2, .inl (cI, 4976, .inl m_undos))]) hx hb hown hk w 0 rfl (Nat.le_of_ble_eq_true rfl) rfl dX12_undo_33 (fun H locs w => ?_)
    refine lv_iconst (v := 0) hx hb dX12_undo_36 (by decide) ?_
    refine lv_istore_n (lv' := [(1, .int 0), (0, .ref a0)]) hx hb dX12_undo_37 rfl hl (by decide) rfl (fun ls hl => ?_)
    obtain ⟨T38, hT38, h⟩ := sat_reg h
    have E38 : ∀ (m_now_1 : ar) (H : Heap) (locs : List Loc) (ls : Array Slot), T38 m_now_1 → wd D A s.heap H locs [(a0, .inr (12, [.int m_nodes, .int m_every, .int m_halves, .int m_age, .int m_life, .int m_first, .ref a1, .int (m_undoMany - 1), .int (((m_undoAt + 8) - 1) - ((m_undoAt + 8) - 1) / 8 * 8), .ref a2, .ref a3, .ref a4, .int m_letterMany, .ref a5, .int m_readAt, .int m_tokenAt, .int m_token, .int m_newNodes, .int m_newEvery, .int m_newHalves, .int m_newAge, .int m_newLife, .int m_newFirst, .int m_newLinks, .ref a6, .int m_pathMany, .int m_pathDelay, .ref a7, .ref a8, .int m_seenMany, .ref a9, .ref a10, .ref a11])), (a1, .inl (cI, 622, .inl m_now_1)), (a2, .inl (cI, 4976, .inl m_undos))] → lv_has ls 2 [(0, .ref a0)] → W p l e rm_X12_undo s m args below meth c H locs 0 0 Q (F0 m 72 ls []) := by
      intro m_now_1 H locs ls h w hl
      have h := hT38 _ h
      refine lv_aload_n hx hb dX12_undo_72 rfl (lv_at hl 0 rfl) ?_
      refine gf_X12_129 hx hb hown hk w.1 0 rfl rfl dX12_undo_73 ?_
      have hR := hC0 _ (sat_some h)
      subst hR
      exact hret _ _ _ _ w dX12_undo_76
    have L38 : ∀ (n : Nat) (x1_38 : Int32) (m_now_38 : ar) (H : Heap) (locs : List Loc) (ls : Array Slot), sat (f_X12_undo_L38 m_undoAt m_undos n x1_38 m_now_38) T38 → wd D A s.heap H locs [(a0, .inr (12, [.int m_nodes, .int m_every, .int m_halves, .int m_age, .int m_life, .int m_first, .ref a1, .int (m_undoMany - 1), .int (((m_undoAt + 8) - 1) - ((m_undoAt + 8) - 1) / 8 * 8), .ref a2, .ref a3, .ref a4, .int m_letterMany, .ref a5, .int m_readAt, .int m_tokenAt, .int m_token, .int m_newNodes, .int m_newEvery, .int m_newHalves, .int m_newAge, .int m_newLife, .int m_newFirst, .int m_newLinks, .ref a6, .int m_pathMany, .int m_pathDelay, .ref a7, .ref a8, .int m_seenMany, .ref a9, .ref a10, .ref a11])), (a1, .inl (cI, 622, .inl m_now_38)), (a2, .inl (cI, 4976, .inl m_undos))] → lv_has ls 2 [(0, .ref a0), (1, .int x1_38)] → W p l e rm_X12_undo s m args below meth c H locs 0 0 Q (F0 m 38 ls []) := by
      intro n
      induction n with
      | zero =>
        intro x1_38 m_now_38 H locs ls h
        rw [f_X12_undo_L38] at h
        exact (sat_none h).elim
      | succ n ih =>
        intro x1_38 m_now_38 H locs ls h w hl
        rw [f_X12_undo_L38] at h
        refine lv_iload_n hx hb dX12_undo_38 rfl (lv_at hl 1 rfl) ?_
        refine lv_sipush (v := 622) hx hb dX12_undo_39 (by decide) ?_
        refine lv_icmp_ge (tgt := 72) hx hb dX12_undo_42 (by decide) (fun c42 => ?_) (fun c42 => ?_)
        · have h := sat_t c42 h
          exact E38 m_now_38 _ _ _ (sat_some h) w (lv_sub hl [0] rfl)
        · have h := sat_f c42 h
          refine lv_aload_n hx hb dX12_undo_45 rfl (lv_at hl 0 rfl) ?_
          refine gf_X12_19 hx hb hown hk w.1 0 rfl rfl dX12_undo_46 ?_
          refine lv_iload_n hx hb dX12_undo_49 rfl (lv_at hl 1 rfl) ?_
          refine lv_aload_n hx hb dX12_undo_50 rfl (lv_at hl 0 rfl) ?_
          refine gf_X12_23 hx hb hown hk w.1 0 rfl rfl dX12_undo_51 ?_
          refine lv_sipush (v := 622) hx hb dX12_undo_54 (by decide) ?_
          refine lv_aload_n hx hb dX12_undo_57 rfl (lv_at hl 0 rfl) ?_
          refine gf_X12_149 hx hb hown hk w.1 0 rfl rfl dX12_undo_58 ?_
          refine lv_imul hx hb dX12_undo_61 ?_
          refine lv_iload_n hx hb dX12_undo_62 rfl (lv_at hl 1 rfl) ?_
          refine lv_iadd hx hb dX12_undo_63 ?_
          obtain ⟨hi, h⟩ := sat_in h
          refine va_iald hx hb hk.1 w.1 2 0 rfl rfl hi dX12_undo_64 ?_
          obtain ⟨hi, h⟩ := sat_in h
          refine ra_ist (ws' := [(a0, .inr (12, [.int m_nodes, .int m_every, .int m_halves, .int m_age, .int m_life, .int m_first, .ref a1, .int (m_undoMany - 1), .int (((m_undoAt + 8) - 1) - ((m_undoAt + 8) - 1) / 8 * 8), .ref a2, .ref a3, .ref a4, .int m_letterMany, .ref a5, .int m_readAt, .int m_tokenAt, .int m_token, .int m_newNodes, .int m_newEvery, .int m_newHalves, .int m_newAge, .int m_newLife, .int m_newFirst, .int m_newLinks, .ref a6, .int m_pathMany, .int m_pathDelay, .ref a7, .ref a8, .int m_seenMany, .ref a9, .ref a10, .ref a11])), (a1, .inl (cI, 622, .inl (upd m_now_38 x1_38.toNatClampNeg (m_undos ((622 * (((m_undoAt + 8) - 1) - ((m_undoAt + 8) - 1) / 8 * 8)) + x1_38).toNatClampNeg)))), (a2, .inl (cI, 4976, .inl m_undos))]) hx hb hk w 1 rfl hi rfl dX12_undo_65 (fun H locs w => ?_)
          refine lv_iinc (v := x1_38 + 1) (lv' := [(1, .int (x1_38 + 1)), (0, .ref a0)]) hx hb dX12_undo_66 hl (k := 1) rfl (congrArg (fun z => x1_38 + z) (by decide)) (by decide) rfl (fun ls hl => ?_)
          refine lv_goto (tgt := 38) hx hb dX12_undo_69 (by decide) ?_
          exact ih (x1_38 + 1) (upd m_now_38 x1_38.toNatClampNeg (m_undos ((622 * (((m_undoAt + 8) - 1) - ((m_undoAt + 8) - 1) / 8 * 8)) + x1_38).toNatClampNeg)) _ _ _ h w (lv_sub hl [1, 0] rfl)
    exact L38 N 0 m_now _ _ _ h w (lv_sub hl [1, 0] rfl)
  · have h := sat_t c4 h
    refine lv_bipush (v := (-2)) hx hb dX12_undo_7 (by decide) ?_
    have hR := hC0 _ (sat_some h)
    subst hR
    exact hret _ _ _ _ w dX12_undo_9
def f_X12_whyNoGuess (m_nodes : Int32) (m_now : ar) (x1 : Int32) (x2 : Int32) (x3 : Int32) : Option (Int32) := Option.bind (f_X12_isNode m_nodes x1) fun r_1 => if (b2i r_1) = 0 then some (-1) else Option.bind (f_X12_isNode m_nodes x2) fun r_2 => if (b2i r_2) = 0 then some (-1) else Option.bind (f_X12_isNode m_nodes x3) fun r_3 => if (b2i r_3) = 0 then some (-1) else if x1 = x2 then some (-1) else Option.bind (f_X12_delay m_now x1 x3) fun r_4 => if r_4 ≤ 0 then some (-2) else some 0
abbrev rm_X12_whyNoGuess : Room := { frames := 2, cells := 0, slots := 0, locals := 43 }
set_option maxRecDepth 100000 in
set_option maxHeartbeats 4000000 in
theorem k_X12_whyNoGuess (l : Launch) (D : va_G) (cI cZ cK : ClassId) (a0 a1 a2 a3 a4 a5 a6 a7 a8 a9 a10 a11 : Nat) (m_nodes : Int32) (m_every : Int32) (m_halves : Int32) (m_age : Int32) (m_life : Int32) (m_first : Int32) (m_undoMany : Int32) (m_undoAt : Int32) (m_letterMany : Int32) (m_readAt : Int32) (m_tokenAt : Int32) (m_token : Int32) (m_newNodes : Int32) (m_newEvery : Int32) (m_newHalves : Int32) (m_newAge : Int32) (m_newLife : Int32) (m_newFirst : Int32) (m_newLinks : Int32) (m_pathMany : Int32) (m_pathDelay : Int32) (m_seenMany : Int32) (m_now : ar) (x1 : Int32) (x2 : Int32) (x3 : Int32) (R : Int32) (h : f_X12_whyNoGuess m_nodes m_now x1 x2 x3 = some R) : Rd l D cI cZ cK yX12_whyNoGuess cX12_whyNoGuess 4 (some .int) rm_X12_whyNoGuess [.ref a0, .int x1, .int x2, .int x3] [(a0, .inr (12, [.int m_nodes, .int m_every, .int m_halves, .int m_age, .int m_life, .int m_first, .ref a1, .int m_undoMany, .int m_undoAt, .ref a2, .ref a3, .ref a4, .int m_letterMany, .ref a5, .int m_readAt, .int m_tokenAt, .int m_token, .int m_newNodes, .int m_newEvery, .int m_newHalves, .int m_newAge, .int m_newLife, .int m_newFirst, .int m_newLinks, .ref a6, .int m_pathMany, .int m_pathDelay, .ref a7, .ref a8, .int m_seenMany, .ref a9, .ref a10, .ref a11])), (a1, .inl (cI, 622, .inl m_now))] R := by
  refine rd_of (by decide) (vp_nar_int _) (Nat.le_of_ble_eq_true rfl) ?_
  intro p e s m args below meth c Q ls hx hb hml hown hk hP hret hl
  have hl : lv_has ls 4 [(0, .ref a0), (1, .int x1), (2, .int x2), (3, .int x3)] := hl
  obtain ⟨C0, hC0, h⟩ := sat_top h
  unfold f_X12_whyNoGuess at h
  refine lv_aload_n hx hb dX12_whyNoGuess_0 rfl (lv_at hl 0 rfl) ?_
  refine lv_iload_n hx hb dX12_whyNoGuess_1 rfl (lv_at hl 1 rfl) ?_
  obtain ⟨r_1, e_1, h⟩ := sat_bind h
  refine cRV (rest := []) hx hb hml hown hk (k_X12_isNode l D cI cZ cK a0 a1 a2 a3 a4 a5 a6 a7 a8 a9 a10 a11 m_nodes m_every m_halves m_age m_life m_first m_undoMany m_undoAt m_letterMany m_readAt m_tokenAt m_token m_newNodes m_newEvery m_newHalves m_newAge m_newLife m_newFirst m_newLinks m_pathMany m_pathDelay m_seenMany x1 r_1 e_1) (me_X12_isNode hk.2.1) (mi_X12_isNode hk.2.1) (ml_X12_162 hk.2.1) (hP.sub [0] rfl) 0 rfl rfl rfl hl.1 rfl rfl (Nat.le_of_ble_eq_true rfl) ⟨rfl, rfl, Nat.le_of_ble_eq_true rfl, Nat.le_of_ble_eq_true rfl, Nat.zero_le _, Nat.zero_le _⟩ dX12_whyNoGuess_2 ?_
  refine lv_if_eq (tgt := 29) hx hb dX12_whyNoGuess_5 (by decide) (fun c5 => ?_) (fun c5 => ?_)
  · have h := sat_t c5 h
    refine lv_iconst (v := (-1)) hx hb dX12_whyNoGuess_29 (by decide) ?_
    have hR := hC0 _ (sat_some h)
    subst hR
    exact hret _ _ dX12_whyNoGuess_30
  · have h := sat_f c5 h
    refine lv_aload_n hx hb dX12_whyNoGuess_8 rfl (lv_at hl 0 rfl) ?_
    refine lv_iload_n hx hb dX12_whyNoGuess_9 rfl (lv_at hl 2 rfl) ?_
    obtain ⟨r_2, e_2, h⟩ := sat_bind h
    refine cRV (rest := []) hx hb hml hown hk (k_X12_isNode l D cI cZ cK a0 a1 a2 a3 a4 a5 a6 a7 a8 a9 a10 a11 m_nodes m_every m_halves m_age m_life m_first m_undoMany m_undoAt m_letterMany m_readAt m_tokenAt m_token m_newNodes m_newEvery m_newHalves m_newAge m_newLife m_newFirst m_newLinks m_pathMany m_pathDelay m_seenMany x2 r_2 e_2) (me_X12_isNode hk.2.1) (mi_X12_isNode hk.2.1) (ml_X12_162 hk.2.1) (hP.sub [0] rfl) 0 rfl rfl rfl hl.1 rfl rfl (Nat.le_of_ble_eq_true rfl) ⟨rfl, rfl, Nat.le_of_ble_eq_true rfl, Nat.le_of_ble_eq_true rfl, Nat.zero_le _, Nat.zero_le _⟩ dX12_whyNoGuess_10 ?_
    refine lv_if_eq (tgt := 29) hx hb dX12_whyNoGuess_13 (by decide) (fun c13 => ?_) (fun c13 => ?_)
    · have h := sat_t c13 h
      refine lv_iconst (v := (-1)) hx hb dX12_whyNoGuess_29 (by decide) ?_
      have hR := hC0 _ (sat_some h)
      subst hR
      exact hret _ _ dX12_whyNoGuess_30
    · have h := sat_f c13 h
      refine lv_aload_n hx hb dX12_whyNoGuess_16 rfl (lv_at hl 0 rfl) ?_
      refine lv_iload_n hx hb dX12_whyNoGuess_17 rfl (lv_at hl 3 rfl) ?_
      obtain ⟨r_3, e_3, h⟩ := sat_bind h
      refine cRV (rest := []) hx hb hml hown hk (k_X12_isNode l D cI cZ cK a0 a1 a2 a3 a4 a5 a6 a7 a8 a9 a10 a11 m_nodes m_every m_halves m_age m_life m_first m_undoMany m_undoAt m_letterMany m_readAt m_tokenAt m_token m_newNodes m_newEvery m_newHalves m_newAge m_newLife m_newFirst m_newLinks m_pathMany m_pathDelay m_seenMany x3 r_3 e_3) (me_X12_isNode hk.2.1) (mi_X12_isNode hk.2.1) (ml_X12_162 hk.2.1) (hP.sub [0] rfl) 0 rfl rfl rfl hl.1 rfl rfl (Nat.le_of_ble_eq_true rfl) ⟨rfl, rfl, Nat.le_of_ble_eq_true rfl, Nat.le_of_ble_eq_true rfl, Nat.zero_le _, Nat.zero_le _⟩ dX12_whyNoGuess_18 ?_
      refine lv_if_eq (tgt := 29) hx hb dX12_whyNoGuess_21 (by decide) (fun c21 => ?_) (fun c21 => ?_)
      · have h := sat_t c21 h
        refine lv_iconst (v := (-1)) hx hb dX12_whyNoGuess_29 (by decide) ?_
        have hR := hC0 _ (sat_some h)
        subst hR
        exact hret _ _ dX12_whyNoGuess_30
      · have h := sat_f c21 h
        refine lv_iload_n hx hb dX12_whyNoGuess_24 rfl (lv_at hl 1 rfl) ?_
        refine lv_iload_n hx hb dX12_whyNoGuess_25 rfl (lv_at hl 2 rfl) ?_
        refine lv_icmp_ne (tgt := 31) hx hb dX12_whyNoGuess_26 (by decide) (fun c26 => ?_) (fun c26 => ?_)
        · have h := sat_f c26 h
          refine lv_aload_n hx hb dX12_whyNoGuess_31 rfl (lv_at hl 0 rfl) ?_
          refine lv_iload_n hx hb dX12_whyNoGuess_32 rfl (lv_at hl 1 rfl) ?_
          refine lv_iload_n hx hb dX12_whyNoGuess_33 rfl (lv_at hl 3 rfl) ?_
          obtain ⟨r_4, e_4, h⟩ := sat_bind h
          refine cRV (rest := []) hx hb hml hown hk (k_X12_delay l D cI cZ cK a0 a1 a2 a3 a4 a5 a6 a7 a8 a9 a10 a11 m_nodes m_every m_halves m_age m_life m_first m_undoMany m_undoAt m_letterMany m_readAt m_tokenAt m_token m_newNodes m_newEvery m_newHalves m_newAge m_newLife m_newFirst m_newLinks m_pathMany m_pathDelay m_seenMany m_now x1 x3 r_4 e_4) (me_X12_delay hk.2.1) (mi_X12_delay hk.2.1) (ml_X12_143 hk.2.1) (hP.sub [0, 1] rfl) 0 rfl rfl rfl hl.1 rfl rfl (Nat.le_of_ble_eq_true rfl) ⟨rfl, rfl, Nat.le_of_ble_eq_true rfl, Nat.le_of_ble_eq_true rfl, Nat.zero_le _, Nat.zero_le _⟩ dX12_whyNoGuess_34 ?_
          refine lv_if_le (tgt := 44) hx hb dX12_whyNoGuess_37 (by decide) (fun c37 => ?_) (fun c37 => ?_)
          · have h := sat_t c37 h
            refine lv_bipush (v := (-2)) hx hb dX12_whyNoGuess_44 (by decide) ?_
            have hR := hC0 _ (sat_some h)
            subst hR
            exact hret _ _ dX12_whyNoGuess_46
          · have h := sat_f c37 h
            refine lv_iconst (v := 0) hx hb dX12_whyNoGuess_40 (by decide) ?_
            refine lv_goto (tgt := 46) hx hb dX12_whyNoGuess_41 (by decide) ?_
            have hR := hC0 _ (sat_some h)
            subst hR
            exact hret _ _ dX12_whyNoGuess_46
        · have h := sat_t c26 h
          refine lv_iconst (v := (-1)) hx hb dX12_whyNoGuess_29 (by decide) ?_
          have hR := hC0 _ (sat_some h)
          subst hR
          exact hret _ _ dX12_whyNoGuess_30
def f_X12_guess (m_nodes : Int32) (m_age : Int32) (m_first : Int32) (m_now : ar) (x1 : Int32) (x2 : Int32) (x3 : Int32) : Option (Int32) := Option.bind (f_X12_whyNoGuess m_nodes m_now x1 x2 x3) fun r_1 => if r_1 = 0 then Option.bind (f_X12_guessNow m_age m_first m_now x1 x2 x3) fun r_2 => some r_2 else some r_1
abbrev rm_X12_guess : Room := { frames := 3, cells := 0, slots := 0, locals := 66 }
set_option maxRecDepth 100000 in
set_option maxHeartbeats 4000000 in
theorem k_X12_guess (l : Launch) (D : va_G) (cI cZ cK : ClassId) (a0 a1 a2 a3 a4 a5 a6 a7 a8 a9 a10 a11 : Nat) (m_nodes : Int32) (m_every : Int32) (m_halves : Int32) (m_age : Int32) (m_life : Int32) (m_first : Int32) (m_undoMany : Int32) (m_undoAt : Int32) (m_letterMany : Int32) (m_readAt : Int32) (m_tokenAt : Int32) (m_token : Int32) (m_newNodes : Int32) (m_newEvery : Int32) (m_newHalves : Int32) (m_newAge : Int32) (m_newLife : Int32) (m_newFirst : Int32) (m_newLinks : Int32) (m_pathMany : Int32) (m_pathDelay : Int32) (m_seenMany : Int32) (m_now : ar) (x1 : Int32) (x2 : Int32) (x3 : Int32) (R : Int32) (h : f_X12_guess m_nodes m_age m_first m_now x1 x2 x3 = some R) : Rd l D cI cZ cK yX12_guess cX12_guess 5 (some .int) rm_X12_guess [.ref a0, .int x1, .int x2, .int x3] [(a0, .inr (12, [.int m_nodes, .int m_every, .int m_halves, .int m_age, .int m_life, .int m_first, .ref a1, .int m_undoMany, .int m_undoAt, .ref a2, .ref a3, .ref a4, .int m_letterMany, .ref a5, .int m_readAt, .int m_tokenAt, .int m_token, .int m_newNodes, .int m_newEvery, .int m_newHalves, .int m_newAge, .int m_newLife, .int m_newFirst, .int m_newLinks, .ref a6, .int m_pathMany, .int m_pathDelay, .ref a7, .ref a8, .int m_seenMany, .ref a9, .ref a10, .ref a11])), (a1, .inl (cI, 622, .inl m_now))] R := by
  refine rd_of (by decide) (vp_nar_int _) (Nat.le_of_ble_eq_true rfl) ?_
  intro p e s m args below meth c Q ls hx hb hml hown hk hP hret hl
  have hl : lv_has ls 5 [(0, .ref a0), (1, .int x1), (2, .int x2), (3, .int x3)] := hl
  obtain ⟨C0, hC0, h⟩ := sat_top h
  unfold f_X12_guess at h
  refine lv_aload_n hx hb dX12_guess_0 rfl (lv_at hl 0 rfl) ?_
  refine lv_iload_n hx hb dX12_guess_1 rfl (lv_at hl 1 rfl) ?_
  refine lv_iload_n hx hb dX12_guess_2 rfl (lv_at hl 2 rfl) ?_
  refine lv_iload_n hx hb dX12_guess_3 rfl (lv_at hl 3 rfl) ?_
  obtain ⟨r_1, e_1, h⟩ := sat_bind h
  refine cRV (rest := []) hx hb hml hown hk (k_X12_whyNoGuess l D cI cZ cK a0 a1 a2 a3 a4 a5 a6 a7 a8 a9 a10 a11 m_nodes m_every m_halves m_age m_life m_first m_undoMany m_undoAt m_letterMany m_readAt m_tokenAt m_token m_newNodes m_newEvery m_newHalves m_newAge m_newLife m_newFirst m_newLinks m_pathMany m_pathDelay m_seenMany m_now x1 x2 x3 r_1 e_1) (me_X12_whyNoGuess hk.2.1) (mi_X12_whyNoGuess hk.2.1) (ml_X12_179 hk.2.1) (hP.sub [0, 1] rfl) 0 rfl rfl rfl hl.1 rfl rfl (Nat.le_of_ble_eq_true rfl) ⟨rfl, rfl, Nat.le_of_ble_eq_true rfl, Nat.le_of_ble_eq_true rfl, Nat.zero_le _, Nat.zero_le _⟩ dX12_guess_4 ?_
  refine lv_istore (lv' := [(4, .int r_1), (0, .ref a0), (1, .int x1), (2, .int x2), (3, .int x3)]) hx hb dX12_guess_7 hl (by decide) rfl (fun ls hl => ?_)
  refine lv_iload hx hb dX12_guess_9 (lv_at hl 0 rfl) ?_
  refine lv_if_eq (tgt := 19) hx hb dX12_guess_11 (by decide) (fun c11 => ?_) (fun c11 => ?_)
  · have h := sat_t c11 h
    refine lv_aload_n hx hb dX12_guess_19 rfl (lv_at hl 1 rfl) ?_
    refine lv_iload_n hx hb dX12_guess_20 rfl (lv_at hl 2 rfl) ?_
    refine lv_iload_n hx hb dX12_guess_21 rfl (lv_at hl 3 rfl) ?_
    refine lv_iload_n hx hb dX12_guess_22 rfl (lv_at hl 4 rfl) ?_
    obtain ⟨r_2, e_2, h⟩ := sat_bind h
    refine cRV (rest := []) hx hb hml hown hk (k_X12_guessNow l D cI cZ cK a0 a1 a2 a3 a4 a5 a6 a7 a8 a9 a10 a11 m_nodes m_every m_halves m_age m_life m_first m_undoMany m_undoAt m_letterMany m_readAt m_tokenAt m_token m_newNodes m_newEvery m_newHalves m_newAge m_newLife m_newFirst m_newLinks m_pathMany m_pathDelay m_seenMany m_now x1 x2 x3 r_2 e_2) (me_X12_guessNow hk.2.1) (mi_X12_guessNow hk.2.1) (ml_X12_146 hk.2.1) (hP.sub [0, 1] rfl) 0 rfl rfl rfl hl.1 rfl rfl (Nat.le_of_ble_eq_true rfl) ⟨rfl, rfl, Nat.le_of_ble_eq_true rfl, Nat.le_of_ble_eq_true rfl, Nat.zero_le _, Nat.zero_le _⟩ dX12_guess_23 ?_
    have hR := hC0 _ (sat_some h)
    subst hR
    exact hret _ _ dX12_guess_26
  · have h := sat_f c11 h
    refine lv_iload hx hb dX12_guess_14 (lv_at hl 0 rfl) ?_
    refine lv_goto (tgt := 26) hx hb dX12_guess_16 (by decide) ?_
    have hR := hC0 _ (sat_some h)
    subst hR
    exact hret _ _ dX12_guess_26
def f_X12_mended (m_nodes : Int32) (m_now : ar) (x1 : Int32) (x2 : Int32) (x3 : Int32) : Option (Int32) := Option.bind (f_X12_whyNoGuess m_nodes m_now x1 x2 x3) fun r_1 => if r_1 = 0 then Option.bind (f_X12_guessAt x1 x2 x3) fun r_2 => ck (inb (406 + r_2) 622) (if 0 ≤ (m_now (406 + r_2).toNatClampNeg) then some (m_now (406 + r_2).toNatClampNeg) else some (-9)) else some r_1
abbrev rm_X12_mended : Room := { frames := 3, cells := 0, slots := 0, locals := 66 }
set_option maxRecDepth 100000 in
set_option maxHeartbeats 4000000 in
theorem k_X12_mended (l : Launch) (D : va_G) (cI cZ cK : ClassId) (a0 a1 a2 a3 a4 a5 a6 a7 a8 a9 a10 a11 : Nat) (m_nodes : Int32) (m_every : Int32) (m_halves : Int32) (m_age : Int32) (m_life : Int32) (m_first : Int32) (m_undoMany : Int32) (m_undoAt : Int32) (m_letterMany : Int32) (m_readAt : Int32) (m_tokenAt : Int32) (m_token : Int32) (m_newNodes : Int32) (m_newEvery : Int32) (m_newHalves : Int32) (m_newAge : Int32) (m_newLife : Int32) (m_newFirst : Int32) (m_newLinks : Int32) (m_pathMany : Int32) (m_pathDelay : Int32) (m_seenMany : Int32) (m_now : ar) (x1 : Int32) (x2 : Int32) (x3 : Int32) (R : Int32) (h : f_X12_mended m_nodes m_now x1 x2 x3 = some R) : Rd l D cI cZ cK yX12_mended cX12_mended 6 (some .int) rm_X12_mended [.ref a0, .int x1, .int x2, .int x3] [(a0, .inr (12, [.int m_nodes, .int m_every, .int m_halves, .int m_age, .int m_life, .int m_first, .ref a1, .int m_undoMany, .int m_undoAt, .ref a2, .ref a3, .ref a4, .int m_letterMany, .ref a5, .int m_readAt, .int m_tokenAt, .int m_token, .int m_newNodes, .int m_newEvery, .int m_newHalves, .int m_newAge, .int m_newLife, .int m_newFirst, .int m_newLinks, .ref a6, .int m_pathMany, .int m_pathDelay, .ref a7, .ref a8, .int m_seenMany, .ref a9, .ref a10, .ref a11])), (a1, .inl (cI, 622, .inl m_now))] R := by
  refine rd_of (by decide) (vp_nar_int _) (Nat.le_of_ble_eq_true rfl) ?_
  intro p e s m args below meth c Q ls hx hb hml hown hk hP hret hl
  have hl : lv_has ls 6 [(0, .ref a0), (1, .int x1), (2, .int x2), (3, .int x3)] := hl
  obtain ⟨C0, hC0, h⟩ := sat_top h
  unfold f_X12_mended at h
  refine lv_aload_n hx hb dX12_mended_0 rfl (lv_at hl 0 rfl) ?_
  refine lv_iload_n hx hb dX12_mended_1 rfl (lv_at hl 1 rfl) ?_
  refine lv_iload_n hx hb dX12_mended_2 rfl (lv_at hl 2 rfl) ?_
  refine lv_iload_n hx hb dX12_mended_3 rfl (lv_at hl 3 rfl) ?_
  obtain ⟨r_1, e_1, h⟩ := sat_bind h
  refine cRV (rest := []) hx hb hml hown hk (k_X12_whyNoGuess l D cI cZ cK a0 a1 a2 a3 a4 a5 a6 a7 a8 a9 a10 a11 m_nodes m_every m_halves m_age m_life m_first m_undoMany m_undoAt m_letterMany m_readAt m_tokenAt m_token m_newNodes m_newEvery m_newHalves m_newAge m_newLife m_newFirst m_newLinks m_pathMany m_pathDelay m_seenMany m_now x1 x2 x3 r_1 e_1) (me_X12_whyNoGuess hk.2.1) (mi_X12_whyNoGuess hk.2.1) (ml_X12_179 hk.2.1) (hP.sub [0, 1] rfl) 0 rfl rfl rfl hl.1 rfl rfl (Nat.le_of_ble_eq_true rfl) ⟨rfl, rfl, Nat.le_of_ble_eq_true rfl, Nat.le_of_ble_eq_true rfl, Nat.zero_le _, Nat.zero_le _⟩ dX12_mended_4 ?_
  refine lv_istore (lv' := [(4, .int r_1), (0, .ref a0), (1, .int x1), (2, .int x2), (3, .int x3)]) hx hb dX12_mended_7 hl (by decide) rfl (fun ls hl => ?_)
  refine lv_iload hx hb dX12_mended_9 (lv_at hl 0 rfl) ?_
  refine lv_if_eq (tgt := 17) hx hb dX12_mended_11 (by decide) (fun c11 => ?_) (fun c11 => ?_)
  · have h := sat_t c11 h
    refine lv_aload_n hx hb dX12_mended_17 rfl (lv_at hl 1 rfl) ?_
    refine gf_X12_19 hx hb hown hk hP 0 rfl rfl dX12_mended_18 ?_
    refine lv_sipush (v := 406) hx hb dX12_mended_21 (by decide) ?_
    refine lv_iload_n hx hb dX12_mended_24 rfl (lv_at hl 2 rfl) ?_
    refine lv_iload_n hx hb dX12_mended_25 rfl (lv_at hl 3 rfl) ?_
    refine lv_iload_n hx hb dX12_mended_26 rfl (lv_at hl 4 rfl) ?_
    obtain ⟨r_2, e_2, h⟩ := sat_bind h
    refine cRS (rest := [.int 406, .ref a1]) hx hb hml hown hk (k_X12_guessAt l D cI cZ cK x1 x2 x3 r_2 e_2) (me_X12_guessAt hk.2.1) (ms_X12_guessAt hk.2.1) (ml_X12_139 hk.2.1) (hP.sub [] rfl) hl.1 rfl rfl (Nat.le_of_ble_eq_true rfl) ⟨rfl, rfl, Nat.le_of_ble_eq_true rfl, Nat.le_of_ble_eq_true rfl, Nat.zero_le _, Nat.zero_le _⟩ dX12_mended_27 ?_
    refine lv_iadd hx hb dX12_mended_30 ?_
    obtain ⟨hi, h⟩ := sat_in h
    refine va_iald hx hb hk.1 hP 1 0 rfl rfl hi dX12_mended_31 ?_
    refine lv_istore (lv' := [(5, .int (m_now (406 + r_2).toNatClampNeg)), (4, .int r_1), (0, .ref a0), (1, .int x1), (2, .int x2), (3, .int x3)]) hx hb dX12_mended_32 hl (by decide) rfl (fun ls hl => ?_)
    refine lv_iload hx hb dX12_mended_34 (lv_at hl 0 rfl) ?_
    refine lv_if_ge (tgt := 44) hx hb dX12_mended_36 (by decide) (fun c36 => ?_) (fun c36 => ?_)
    · have h := sat_t c36 h
      refine lv_iload hx hb dX12_mended_44 (lv_at hl 0 rfl) ?_
      have hR := hC0 _ (sat_some h)
      subst hR
      exact hret _ _ dX12_mended_46
    · have h := sat_f c36 h
      refine lv_bipush (v := (-9)) hx hb dX12_mended_39 (by decide) ?_
      refine lv_goto (tgt := 46) hx hb dX12_mended_41 (by decide) ?_
      have hR := hC0 _ (sat_some h)
      subst hR
      exact hret _ _ dX12_mended_46
  · have h := sat_f c11 h
    refine lv_iload hx hb dX12_mended_14 (lv_at hl 0 rfl) ?_
    have hR := hC0 _ (sat_some h)
    subst hR
    exact hret _ _ dX12_mended_16
def f_X12_best (N : Nat) (m_nodes : Int32) (m_age : Int32) (m_first : Int32) (m_now : ar) (x1 : Int32) (x2 : Int32) : Option (Int32) := Option.bind (f_X12_isNode m_nodes x1) fun r_1 => if (b2i r_1) = 0 then some (-1) else Option.bind (f_X12_isNode m_nodes x2) fun r_2 => if (b2i r_2) = 0 then some (-1) else if x1 = x2 then some (-1) else Option.bind (f_X12_bestOf N m_nodes m_age m_first m_now x1 x2) fun r_3 => some r_3
abbrev rm_X12_best : Room := { frames := 3, cells := 0, slots := 0, locals := 71 }
set_option maxRecDepth 100000 in
set_option maxHeartbeats 4000000 in
theorem k_X12_best (l : Launch) (D : va_G) (cI cZ cK : ClassId) (N : Nat) (a0 a1 a2 a3 a4 a5 a6 a7 a8 a9 a10 a11 : Nat) (m_nodes : Int32) (m_every : Int32) (m_halves : Int32) (m_age : Int32) (m_life : Int32) (m_first : Int32) (m_undoMany : Int32) (m_undoAt : Int32) (m_letterMany : Int32) (m_readAt : Int32) (m_tokenAt : Int32) (m_token : Int32) (m_newNodes : Int32) (m_newEvery : Int32) (m_newHalves : Int32) (m_newAge : Int32) (m_newLife : Int32) (m_newFirst : Int32) (m_newLinks : Int32) (m_pathMany : Int32) (m_pathDelay : Int32) (m_seenMany : Int32) (m_now : ar) (x1 : Int32) (x2 : Int32) (R : Int32) (h : f_X12_best N m_nodes m_age m_first m_now x1 x2 = some R) : Rd l D cI cZ cK yX12_best cX12_best 3 (some .int) rm_X12_best [.ref a0, .int x1, .int x2] [(a0, .inr (12, [.int m_nodes, .int m_every, .int m_halves, .int m_age, .int m_life, .int m_first, .ref a1, .int m_undoMany, .int m_undoAt, .ref a2, .ref a3, .ref a4, .int m_letterMany, .ref a5, .int m_readAt, .int m_tokenAt, .int m_token, .int m_newNodes, .int m_newEvery, .int m_newHalves, .int m_newAge, .int m_newLife, .int m_newFirst, .int m_newLinks, .ref a6, .int m_pathMany, .int m_pathDelay, .ref a7, .ref a8, .int m_seenMany, .ref a9, .ref a10, .ref a11])), (a1, .inl (cI, 622, .inl m_now))] R := by
  refine rd_of (by decide) (vp_nar_int _) (Nat.le_of_ble_eq_true rfl) ?_
  intro p e s m args below meth c Q ls hx hb hml hown hk hP hret hl
  have hl : lv_has ls 3 [(0, .ref a0), (1, .int x1), (2, .int x2)] := hl
  obtain ⟨C0, hC0, h⟩ := sat_top h
  unfold f_X12_best at h
  refine lv_aload_n hx hb dX12_best_0 rfl (lv_at hl 0 rfl) ?_
  refine lv_iload_n hx hb dX12_best_1 rfl (lv_at hl 1 rfl) ?_
  obtain ⟨r_1, e_1, h⟩ := sat_bind h
  refine cRV (rest := []) hx hb hml hown hk (k_X12_isNode l D cI cZ cK a0 a1 a2 a3 a4 a5 a6 a7 a8 a9 a10 a11 m_nodes m_every m_halves m_age m_life m_first m_undoMany m_undoAt m_letterMany m_readAt m_tokenAt m_token m_newNodes m_newEvery m_newHalves m_newAge m_newLife m_newFirst m_newLinks m_pathMany m_pathDelay m_seenMany x1 r_1 e_1) (me_X12_isNode hk.2.1) (mi_X12_isNode hk.2.1) (ml_X12_162 hk.2.1) (hP.sub [0] rfl) 0 rfl rfl rfl hl.1 rfl rfl (Nat.le_of_ble_eq_true rfl) ⟨rfl, rfl, Nat.le_of_ble_eq_true rfl, Nat.le_of_ble_eq_true rfl, Nat.zero_le _, Nat.zero_le _⟩ dX12_best_2 ?_
  refine lv_if_eq (tgt := 30) hx hb dX12_best_5 (by decide) (fun c5 => ?_) (fun c5 => ?_)
  · have h := sat_t c5 h
    refine lv_iconst (v := (-1)) hx hb dX12_best_30 (by decide) ?_
    have hR := hC0 _ (sat_some h)
    subst hR
    exact hret _ _ dX12_best_31
  · have h := sat_f c5 h
    refine lv_aload_n hx hb dX12_best_8 rfl (lv_at hl 0 rfl) ?_
    refine lv_iload_n hx hb dX12_best_9 rfl (lv_at hl 2 rfl) ?_
    obtain ⟨r_2, e_2, h⟩ := sat_bind h
    refine cRV (rest := []) hx hb hml hown hk (k_X12_isNode l D cI cZ cK a0 a1 a2 a3 a4 a5 a6 a7 a8 a9 a10 a11 m_nodes m_every m_halves m_age m_life m_first m_undoMany m_undoAt m_letterMany m_readAt m_tokenAt m_token m_newNodes m_newEvery m_newHalves m_newAge m_newLife m_newFirst m_newLinks m_pathMany m_pathDelay m_seenMany x2 r_2 e_2) (me_X12_isNode hk.2.1) (mi_X12_isNode hk.2.1) (ml_X12_162 hk.2.1) (hP.sub [0] rfl) 0 rfl rfl rfl hl.1 rfl rfl (Nat.le_of_ble_eq_true rfl) ⟨rfl, rfl, Nat.le_of_ble_eq_true rfl, Nat.le_of_ble_eq_true rfl, Nat.zero_le _, Nat.zero_le _⟩ dX12_best_10 ?_
    refine lv_if_eq (tgt := 30) hx hb dX12_best_13 (by decide) (fun c13 => ?_) (fun c13 => ?_)
    · have h := sat_t c13 h
      refine lv_iconst (v := (-1)) hx hb dX12_best_30 (by decide) ?_
      have hR := hC0 _ (sat_some h)
      subst hR
      exact hret _ _ dX12_best_31
    · have h := sat_f c13 h
      refine lv_iload_n hx hb dX12_best_16 rfl (lv_at hl 1 rfl) ?_
      refine lv_iload_n hx hb dX12_best_17 rfl (lv_at hl 2 rfl) ?_
      refine lv_icmp_eq (tgt := 30) hx hb dX12_best_18 (by decide) (fun c18 => ?_) (fun c18 => ?_)
      · have h := sat_t c18 h
        refine lv_iconst (v := (-1)) hx hb dX12_best_30 (by decide) ?_
        have hR := hC0 _ (sat_some h)
        subst hR
        exact hret _ _ dX12_best_31
      · have h := sat_f c18 h
        refine lv_aload_n hx hb dX12_best_21 rfl (lv_at hl 0 rfl) ?_
        refine lv_iload_n hx hb dX12_best_22 rfl (lv_at hl 1 rfl) ?_
        refine lv_iload_n hx hb dX12_best_23 rfl (lv_at hl 2 rfl) ?_
        obtain ⟨r_3, e_3, h⟩ := sat_bind h
        refine cRV (rest := []) hx hb hml hown hk (k_X12_bestOf l D cI cZ cK N a0 a1 a2 a3 a4 a5 a6 a7 a8 a9 a10 a11 m_nodes m_every m_halves m_age m_life m_first m_undoMany m_undoAt m_letterMany m_readAt m_tokenAt m_token m_newNodes m_newEvery m_newHalves m_newAge m_newLife m_newFirst m_newLinks m_pathMany m_pathDelay m_seenMany m_now x1 x2 r_3 e_3) (me_X12_bestOf hk.2.1) (mi_X12_bestOf hk.2.1) (ml_X12_155 hk.2.1) (hP.sub [0, 1] rfl) 0 rfl rfl rfl hl.1 rfl rfl (Nat.le_of_ble_eq_true rfl) ⟨rfl, rfl, Nat.le_of_ble_eq_true rfl, Nat.le_of_ble_eq_true rfl, Nat.zero_le _, Nat.zero_le _⟩ dX12_best_24 ?_
        refine lv_goto (tgt := 31) hx hb dX12_best_27 (by decide) ?_
        have hR := hC0 _ (sat_some h)
        subst hR
        exact hret _ _ dX12_best_31
def f_X12_node_L24 (m_nodes : Int32) (m_now : ar) (x1 : Int32) : Nat → Int32 → Int32 → Option (Int32)
  | 0, _, _ => none
  | n + 1, x3_24, x4_24 => if m_nodes ≤ x4_24 then some x3_24 else Option.bind (f_X12_delay m_now x1 x4_24) fun r_3 => if r_3 ≤ 0 then f_X12_node_L24 m_nodes m_now x1 n (x3_24 + 0) (x4_24 + 1) else f_X12_node_L24 m_nodes m_now x1 n (x3_24 + 1) (x4_24 + 1)
def f_X12_node (N : Nat) (m_nodes : Int32) (m_now : ar) (x1 : Int32) (x2 : Int32) : Option (Int32) := Option.bind (f_X12_isNode m_nodes x1) fun r_1 => if (b2i r_1) = 0 then some (-1) else Option.bind (f_X12_in x2 0 2) fun r_2 => if (b2i r_2) = 0 then some (-1) else Option.bind (f_X12_node_L24 m_nodes m_now x1 N 0 0) fun s24 => if x2 = 0 then ck (inb (106 + x1) 622) (some (m_now (106 + x1).toNatClampNeg)) else if x2 = 1 then ck (inb (112 + x1) 622) (some (m_now (112 + x1).toNatClampNeg)) else some s24
abbrev rm_X12_node : Room := { frames := 2, cells := 0, slots := 0, locals := 43 }
set_option maxRecDepth 100000 in
set_option maxHeartbeats 4000000 in
theorem k_X12_node (l : Launch) (D : va_G) (cI cZ cK : ClassId) (N : Nat) (a0 a1 a2 a3 a4 a5 a6 a7 a8 a9 a10 a11 : Nat) (m_nodes : Int32) (m_every : Int32) (m_halves : Int32) (m_age : Int32) (m_life : Int32) (m_first : Int32) (m_undoMany : Int32) (m_undoAt : Int32) (m_letterMany : Int32) (m_readAt : Int32) (m_tokenAt : Int32) (m_token : Int32) (m_newNodes : Int32) (m_newEvery : Int32) (m_newHalves : Int32) (m_newAge : Int32) (m_newLife : Int32) (m_newFirst : Int32) (m_newLinks : Int32) (m_pathMany : Int32) (m_pathDelay : Int32) (m_seenMany : Int32) (m_now : ar) (x1 : Int32) (x2 : Int32) (R : Int32) (h : f_X12_node N m_nodes m_now x1 x2 = some R) : Rd l D cI cZ cK yX12_node cX12_node 5 (some .int) rm_X12_node [.ref a0, .int x1, .int x2] [(a0, .inr (12, [.int m_nodes, .int m_every, .int m_halves, .int m_age, .int m_life, .int m_first, .ref a1, .int m_undoMany, .int m_undoAt, .ref a2, .ref a3, .ref a4, .int m_letterMany, .ref a5, .int m_readAt, .int m_tokenAt, .int m_token, .int m_newNodes, .int m_newEvery, .int m_newHalves, .int m_newAge, .int m_newLife, .int m_newFirst, .int m_newLinks, .ref a6, .int m_pathMany, .int m_pathDelay, .ref a7, .ref a8, .int m_seenMany, .ref a9, .ref a10, .ref a11])), (a1, .inl (cI, 622, .inl m_now))] R := by
  refine rd_of (by decide) (vp_nar_int _) (Nat.le_of_ble_eq_true rfl) ?_
  intro p e s m args below meth c Q ls hx hb hml hown hk hP hret hl
  have hl : lv_has ls 5 [(0, .ref a0), (1, .int x1), (2, .int x2)] := hl
  obtain ⟨C0, hC0, h⟩ := sat_top h
  unfold f_X12_node at h
  refine lv_aload_n hx hb dX12_node_0 rfl (lv_at hl 0 rfl) ?_
  refine lv_iload_n hx hb dX12_node_1 rfl (lv_at hl 1 rfl) ?_
  obtain ⟨r_1, e_1, h⟩ := sat_bind h
  refine cRV (rest := []) hx hb hml hown hk (k_X12_isNode l D cI cZ cK a0 a1 a2 a3 a4 a5 a6 a7 a8 a9 a10 a11 m_nodes m_every m_halves m_age m_life m_first m_undoMany m_undoAt m_letterMany m_readAt m_tokenAt m_token m_newNodes m_newEvery m_newHalves m_newAge m_newLife m_newFirst m_newLinks m_pathMany m_pathDelay m_seenMany x1 r_1 e_1) (me_X12_isNode hk.2.1) (mi_X12_isNode hk.2.1) (ml_X12_162 hk.2.1) (hP.sub [0] rfl) 0 rfl rfl rfl hl.1 rfl rfl (Nat.le_of_ble_eq_true rfl) ⟨rfl, rfl, Nat.le_of_ble_eq_true rfl, Nat.le_of_ble_eq_true rfl, Nat.zero_le _, Nat.zero_le _⟩ dX12_node_2 ?_
  refine lv_if_eq (tgt := 17) hx hb dX12_node_5 (by decide) (fun c5 => ?_) (fun c5 => ?_)
  · have h := sat_t c5 h
    refine lv_iconst (v := (-1)) hx hb dX12_node_17 (by decide) ?_
    have hR := hC0 _ (sat_some h)
    subst hR
    exact hret _ _ dX12_node_18
  · have h := sat_f c5 h
    refine lv_iload_n hx hb dX12_node_8 rfl (lv_at hl 2 rfl) ?_
    refine lv_iconst (v := 0) hx hb dX12_node_9 (by decide) ?_
    refine lv_iconst (v := 2) hx hb dX12_node_10 (by decide) ?_
    obtain ⟨r_2, e_2, h⟩ := sat_bind h
    refine cRS (rest := []) hx hb hml hown hk (k_X12_in l D cI cZ cK x2 0 2 r_2 e_2) (me_X12_in hk.2.1) (ms_X12_in hk.2.1) (ml_X12_58 hk.2.1) (hP.sub [] rfl) hl.1 rfl rfl (Nat.le_of_ble_eq_true rfl) ⟨rfl, rfl, Nat.le_of_ble_eq_true rfl, Nat.le_of_ble_eq_true rfl, Nat.zero_le _, Nat.zero_le _⟩ dX12_node_11 ?_
    refine lv_if_ne (tgt := 19) hx hb dX12_node_14 (by decide) (fun c14 => ?_) (fun c14 => ?_)
    · have h := sat_f c14 h
      refine lv_iconst (v := 0) hx hb dX12_node_19 (by decide) ?_
      refine lv_istore_n (lv' := [(3, .int 0), (0, .ref a0), (1, .int x1), (2, .int x2)]) hx hb dX12_node_20 rfl hl (by decide) rfl (fun ls hl => ?_)
      refine lv_iconst (v := 0) hx hb dX12_node_21 (by decide) ?_
      refine lv_istore (lv' := [(4, .int 0), (3, .int 0), (0, .ref a0), (1, .int x1), (2, .int x2)]) hx hb dX12_node_22 hl (by decide) rfl (fun ls hl => ?_)
      obtain ⟨T24, hT24, h⟩ := sat_reg h
      have E24 : ∀ (e3_4 : Int32) (ls : Array Slot), T24 e3_4 → lv_has ls 5 [(0, .ref a0), (1, .int x1), (2, .int x2), (3, .int e3_4)] → W p l e rm_X12_node s m args below meth c s.heap [] 0 0 Q (F0 m 57 ls []) := by
        intro e3_4 ls h hl
        have h := hT24 _ h
        refine lv_iload_n hx hb dX12_node_57 rfl (lv_at hl 2 rfl) ?_
        refine lv_if_ne (tgt := 73) hx hb dX12_node_58 (by decide) (fun c58 => ?_) (fun c58 => ?_)
        · have h := sat_f c58 h
          refine lv_iload_n hx hb dX12_node_73 rfl (lv_at hl 2 rfl) ?_
          refine lv_iconst (v := 1) hx hb dX12_node_74 (by decide) ?_
          refine lv_icmp_ne (tgt := 90) hx hb dX12_node_75 (by decide) (fun c75 => ?_) (fun c75 => ?_)
          · have h := sat_f c75 h
            refine lv_iload_n hx hb dX12_node_90 rfl (lv_at hl 3 rfl) ?_
            have hR := hC0 _ (sat_some h)
            subst hR
            exact hret _ _ dX12_node_91
          · have h := sat_t c75 h
            refine lv_aload_n hx hb dX12_node_78 rfl (lv_at hl 0 rfl) ?_
            refine gf_X12_19 hx hb hown hk hP 0 rfl rfl dX12_node_79 ?_
            refine lv_bipush (v := 112) hx hb dX12_node_82 (by decide) ?_
            refine lv_iload_n hx hb dX12_node_84 rfl (lv_at hl 1 rfl) ?_
            refine lv_iadd hx hb dX12_node_85 ?_
            obtain ⟨hi, h⟩ := sat_in h
            refine va_iald hx hb hk.1 hP 1 0 rfl rfl hi dX12_node_86 ?_
            refine lv_goto (tgt := 91) hx hb dX12_node_87 (by decide) ?_
            have hR := hC0 _ (sat_some h)
            subst hR
            exact hret _ _ dX12_node_91
        · have h := sat_t c58 h
          refine lv_aload_n hx hb dX12_node_61 rfl (lv_at hl 0 rfl) ?_
          refine gf_X12_19 hx hb hown hk hP 0 rfl rfl dX12_node_62 ?_
          refine lv_bipush (v := 106) hx hb dX12_node_65 (by decide) ?_
          refine lv_iload_n hx hb dX12_node_67 rfl (lv_at hl 1 rfl) ?_
          refine lv_iadd hx hb dX12_node_68 ?_
          obtain ⟨hi, h⟩ := sat_in h
          refine va_iald hx hb hk.1 hP 1 0 rfl rfl hi dX12_node_69 ?_
          refine lv_goto (tgt := 91) hx hb dX12_node_70 (by decide) ?_
          have hR := hC0 _ (sat_some h)
          subst hR
          exact hret _ _ dX12_node_91
      have L24 : ∀ (n : Nat) (x3_24 : Int32) (x4_24 : Int32) (ls : Array Slot), sat (f_X12_node_L24 m_nodes m_now x1 n x3_24 x4_24) T24 → lv_has ls 5 [(0, .ref a0), (1, .int x1), (2, .int x2), (3, .int x3_24), (4, .int x4_24)] → W p l e rm_X12_node s m args below meth c s.heap [] 0 0 Q (F0 m 24 ls []) := by
        intro n
        induction n with
        | zero =>
          intro x3_24 x4_24 ls h
          rw [f_X12_node_L24] at h
          exact (sat_none h).elim
        | succ n ih =>
          intro x3_24 x4_24 ls h hl
          rw [f_X12_node_L24] at h
          refine lv_iload hx hb dX12_node_24 (lv_at hl 4 rfl) ?_
          refine lv_aload_n hx hb dX12_node_26 rfl (lv_at hl 0 rfl) ?_
          refine gf_X12_7 hx hb hown hk hP 0 rfl rfl dX12_node_27 ?_
          refine lv_icmp_ge (tgt := 57) hx hb dX12_node_30 (by decide) (fun c30 => ?_) (fun c30 => ?_)
          · have h := sat_t c30 h
            exact E24 x3_24 _ (sat_some h) (lv_sub hl [0, 1, 2, 3] rfl)
          · have h := sat_f c30 h
            refine lv_iload_n hx hb dX12_node_33 rfl (lv_at hl 3 rfl) ?_
            refine lv_aload_n hx hb dX12_node_34 rfl (lv_at hl 0 rfl) ?_
            refine lv_iload_n hx hb dX12_node_35 rfl (lv_at hl 1 rfl) ?_
            refine lv_iload hx hb dX12_node_36 (lv_at hl 4 rfl) ?_
            obtain ⟨r_3, e_3, h⟩ := sat_bind h
            refine cRV (rest := [.int x3_24]) hx hb hml hown hk (k_X12_delay l D cI cZ cK a0 a1 a2 a3 a4 a5 a6 a7 a8 a9 a10 a11 m_nodes m_every m_halves m_age m_life m_first m_undoMany m_undoAt m_letterMany m_readAt m_tokenAt m_token m_newNodes m_newEvery m_newHalves m_newAge m_newLife m_newFirst m_newLinks m_pathMany m_pathDelay m_seenMany m_now x1 x4_24 r_3 e_3) (me_X12_delay hk.2.1) (mi_X12_delay hk.2.1) (ml_X12_143 hk.2.1) (hP.sub [0, 1] rfl) 0 rfl rfl rfl hl.1 rfl rfl (Nat.le_of_ble_eq_true rfl) ⟨rfl, rfl, Nat.le_of_ble_eq_true rfl, Nat.le_of_ble_eq_true rfl, Nat.zero_le _, Nat.zero_le _⟩ dX12_node_38 ?_
            refine lv_if_le (tgt := 48) hx hb dX12_node_41 (by decide) (fun c41 => ?_) (fun c41 => ?_)
            · have h := sat_t c41 h
              refine lv_iconst (v := 0) hx hb dX12_node_48 (by decide) ?_
              refine lv_iadd hx hb dX12_node_49 ?_
              refine lv_istore_n (lv' := [(3, .int (x3_24 + 0)), (0, .ref a0), (1, .int x1), (2, .int x2), (4, .int x4_24)]) hx hb dX12_node_50 rfl hl (by decide) rfl (fun ls hl => ?_)
              refine lv_iinc (v := x4_24 + 1) (lv' := [(4, .int (x4_24 + 1)), (3, .int (x3_24 + 0)), (0, .ref a0), (1, .int x1), (2, .int x2)]) hx hb dX12_node_51 hl (k := 4) rfl (congrArg (fun z => x4_24 + z) (by decide)) (by decide) rfl (fun ls hl => ?_)
              refine lv_goto (tgt := 24) hx hb dX12_node_54 (by decide) ?_
              exact ih (x3_24 + 0) (x4_24 + 1) _ h (lv_sub hl [2, 3, 4, 1, 0] rfl)
            · have h := sat_f c41 h
              refine lv_iconst (v := 1) hx hb dX12_node_44 (by decide) ?_
              refine lv_goto (tgt := 49) hx hb dX12_node_45 (by decide) ?_
              refine lv_iadd hx hb dX12_node_49 ?_
              refine lv_istore_n (lv' := [(3, .int (x3_24 + 1)), (0, .ref a0), (1, .int x1), (2, .int x2), (4, .int x4_24)]) hx hb dX12_node_50 rfl hl (by decide) rfl (fun ls hl => ?_)
              refine lv_iinc (v := x4_24 + 1) (lv' := [(4, .int (x4_24 + 1)), (3, .int (x3_24 + 1)), (0, .ref a0), (1, .int x1), (2, .int x2)]) hx hb dX12_node_51 hl (k := 4) rfl (congrArg (fun z => x4_24 + z) (by decide)) (by decide) rfl (fun ls hl => ?_)
              refine lv_goto (tgt := 24) hx hb dX12_node_54 (by decide) ?_
              exact ih (x3_24 + 1) (x4_24 + 1) _ h (lv_sub hl [2, 3, 4, 1, 0] rfl)
      exact L24 N 0 0 _ h (lv_sub hl [2, 3, 4, 1, 0] rfl)
    · have h := sat_t c14 h
      refine lv_iconst (v := (-1)) hx hb dX12_node_17 (by decide) ?_
      have hR := hC0 _ (sat_some h)
      subst hR
      exact hret _ _ dX12_node_18
def f_X12_used (N : Nat) (m_now : ar) (x1 : Int32) : Option (Int32) := Option.bind (f_X12_pairOf N m_now x1) fun r_1 => if r_1 = (-9) then some (-1) else ck (inb (154 + r_1) 622) (some (m_now (154 + r_1).toNatClampNeg))
abbrev rm_X12_used : Room := { frames := 1, cells := 0, slots := 0, locals := 23 }
set_option maxRecDepth 100000 in
set_option maxHeartbeats 4000000 in
theorem k_X12_used (l : Launch) (D : va_G) (cI cZ cK : ClassId) (N : Nat) (a0 a1 a2 a3 a4 a5 a6 a7 a8 a9 a10 a11 : Nat) (m_nodes : Int32) (m_every : Int32) (m_halves : Int32) (m_age : Int32) (m_life : Int32) (m_first : Int32) (m_undoMany : Int32) (m_undoAt : Int32) (m_letterMany : Int32) (m_readAt : Int32) (m_tokenAt : Int32) (m_token : Int32) (m_newNodes : Int32) (m_newEvery : Int32) (m_newHalves : Int32) (m_newAge : Int32) (m_newLife : Int32) (m_newFirst : Int32) (m_newLinks : Int32) (m_pathMany : Int32) (m_pathDelay : Int32) (m_seenMany : Int32) (m_now : ar) (x1 : Int32) (R : Int32) (h : f_X12_used N m_now x1 = some R) : Rd l D cI cZ cK yX12_used cX12_used 3 (some .int) rm_X12_used [.ref a0, .int x1] [(a0, .inr (12, [.int m_nodes, .int m_every, .int m_halves, .int m_age, .int m_life, .int m_first, .ref a1, .int m_undoMany, .int m_undoAt, .ref a2, .ref a3, .ref a4, .int m_letterMany, .ref a5, .int m_readAt, .int m_tokenAt, .int m_token, .int m_newNodes, .int m_newEvery, .int m_newHalves, .int m_newAge, .int m_newLife, .int m_newFirst, .int m_newLinks, .ref a6, .int m_pathMany, .int m_pathDelay, .ref a7, .ref a8, .int m_seenMany, .ref a9, .ref a10, .ref a11])), (a1, .inl (cI, 622, .inl m_now))] R := by
  refine rd_of (by decide) (vp_nar_int _) (Nat.le_of_ble_eq_true rfl) ?_
  intro p e s m args below meth c Q ls hx hb hml hown hk hP hret hl
  have hl : lv_has ls 3 [(0, .ref a0), (1, .int x1)] := hl
  obtain ⟨C0, hC0, h⟩ := sat_top h
  unfold f_X12_used at h
  refine lv_aload_n hx hb dX12_used_0 rfl (lv_at hl 0 rfl) ?_
  refine lv_iload_n hx hb dX12_used_1 rfl (lv_at hl 1 rfl) ?_
  obtain ⟨r_1, e_1, h⟩ := sat_bind h
  refine cRV (rest := []) hx hb hml hown hk (k_X12_pairOf l D cI cZ cK N a0 a1 a2 a3 a4 a5 a6 a7 a8 a9 a10 a11 m_nodes m_every m_halves m_age m_life m_first m_undoMany m_undoAt m_letterMany m_readAt m_tokenAt m_token m_newNodes m_newEvery m_newHalves m_newAge m_newLife m_newFirst m_newLinks m_pathMany m_pathDelay m_seenMany m_now x1 r_1 e_1) (me_X12_pairOf hk.2.1) (mi_X12_pairOf hk.2.1) (ml_X12_135 hk.2.1) (hP.sub [0, 1] rfl) 0 rfl rfl rfl hl.1 rfl rfl (Nat.le_of_ble_eq_true rfl) ⟨rfl, rfl, Nat.le_of_ble_eq_true rfl, Nat.le_of_ble_eq_true rfl, Nat.zero_le _, Nat.zero_le _⟩ dX12_used_2 ?_
  refine lv_istore_n (lv' := [(2, .int r_1), (0, .ref a0), (1, .int x1)]) hx hb dX12_used_5 rfl hl (by decide) rfl (fun ls hl => ?_)
  refine lv_iload_n hx hb dX12_used_6 rfl (lv_at hl 0 rfl) ?_
  refine lv_bipush (v := (-9)) hx hb dX12_used_7 (by decide) ?_
  refine lv_icmp_ne (tgt := 16) hx hb dX12_used_9 (by decide) (fun c9 => ?_) (fun c9 => ?_)
  · have h := sat_f c9 h
    refine lv_aload_n hx hb dX12_used_16 rfl (lv_at hl 1 rfl) ?_
    refine gf_X12_19 hx hb hown hk hP 0 rfl rfl dX12_used_17 ?_
    refine lv_sipush (v := 154) hx hb dX12_used_20 (by decide) ?_
    refine lv_iload_n hx hb dX12_used_23 rfl (lv_at hl 0 rfl) ?_
    refine lv_iadd hx hb dX12_used_24 ?_
    obtain ⟨hi, h⟩ := sat_in h
    refine va_iald hx hb hk.1 hP 1 0 rfl rfl hi dX12_used_25 ?_
    have hR := hC0 _ (sat_some h)
    subst hR
    exact hret _ _ dX12_used_26
  · have h := sat_t c9 h
    refine lv_iconst (v := (-1)) hx hb dX12_used_12 (by decide) ?_
    refine lv_goto (tgt := 26) hx hb dX12_used_13 (by decide) ?_
    have hR := hC0 _ (sat_some h)
    subst hR
    exact hret _ _ dX12_used_26
def f_X12_way (m_now : ar) (x1 : Int32) : Option (Int32) := if (-1) ≤ x1 then ck (inb 1 622) (if (m_now (1 : Int32).toNatClampNeg) < 0 then some (-9) else if x1 ≤ (m_now (1 : Int32).toNatClampNeg) then if 0 ≤ x1 then ck (inb (2 + x1) 622) (some (m_now (2 + x1).toNatClampNeg)) else some (m_now (1 : Int32).toNatClampNeg) else some (-9)) else some (-1)
abbrev rm_X12_way : Room := { frames := 0, cells := 0, slots := 0, locals := 0 }
set_option maxRecDepth 100000 in
set_option maxHeartbeats 4000000 in
theorem k_X12_way (l : Launch) (D : va_G) (cI cZ cK : ClassId) (a0 a1 a2 a3 a4 a5 a6 a7 a8 a9 a10 a11 : Nat) (m_nodes : Int32) (m_every : Int32) (m_halves : Int32) (m_age : Int32) (m_life : Int32) (m_first : Int32) (m_undoMany : Int32) (m_undoAt : Int32) (m_letterMany : Int32) (m_readAt : Int32) (m_tokenAt : Int32) (m_token : Int32) (m_newNodes : Int32) (m_newEvery : Int32) (m_newHalves : Int32) (m_newAge : Int32) (m_newLife : Int32) (m_newFirst : Int32) (m_newLinks : Int32) (m_pathMany : Int32) (m_pathDelay : Int32) (m_seenMany : Int32) (m_now : ar) (x1 : Int32) (R : Int32) (h : f_X12_way m_now x1 = some R) : Rd l D cI cZ cK yX12_way cX12_way 3 (some .int) rm_X12_way [.ref a0, .int x1] [(a0, .inr (12, [.int m_nodes, .int m_every, .int m_halves, .int m_age, .int m_life, .int m_first, .ref a1, .int m_undoMany, .int m_undoAt, .ref a2, .ref a3, .ref a4, .int m_letterMany, .ref a5, .int m_readAt, .int m_tokenAt, .int m_token, .int m_newNodes, .int m_newEvery, .int m_newHalves, .int m_newAge, .int m_newLife, .int m_newFirst, .int m_newLinks, .ref a6, .int m_pathMany, .int m_pathDelay, .ref a7, .ref a8, .int m_seenMany, .ref a9, .ref a10, .ref a11])), (a1, .inl (cI, 622, .inl m_now))] R := by
  refine rd_of (by decide) (vp_nar_int _) (Nat.le_of_ble_eq_true rfl) ?_
  intro p e s m args below meth c Q ls hx hb hml hown hk hP hret hl
  have hl : lv_has ls 3 [(0, .ref a0), (1, .int x1)] := hl
  obtain ⟨C0, hC0, h⟩ := sat_top h
  unfold f_X12_way at h
  refine lv_iload_n hx hb dX12_way_0 rfl (lv_at hl 1 rfl) ?_
  refine lv_iconst (v := (-1)) hx hb dX12_way_1 (by decide) ?_
  refine lv_icmp_ge (tgt := 7) hx hb dX12_way_2 (by decide) (fun c2 => ?_) (fun c2 => ?_)
  · have h := sat_t c2 h
    refine lv_aload_n hx hb dX12_way_7 rfl (lv_at hl 0 rfl) ?_
    refine gf_X12_19 hx hb hown hk hP 0 rfl rfl dX12_way_8 ?_
    refine lv_iconst (v := 1) hx hb dX12_way_11 (by decide) ?_
    obtain ⟨hi, h⟩ := sat_in h
    refine va_iald hx hb hk.1 hP 1 0 rfl rfl hi dX12_way_12 ?_
    refine lv_istore_n (lv' := [(2, .int (m_now (1 : Int32).toNatClampNeg)), (0, .ref a0), (1, .int x1)]) hx hb dX12_way_13 rfl hl (by decide) rfl (fun ls hl => ?_)
    refine lv_iload_n hx hb dX12_way_14 rfl (lv_at hl 0 rfl) ?_
    refine lv_if_lt (tgt := 23) hx hb dX12_way_15 (by decide) (fun c15 => ?_) (fun c15 => ?_)
    · have h := sat_t c15 h
      refine lv_bipush (v := (-9)) hx hb dX12_way_23 (by decide) ?_
      have hR := hC0 _ (sat_some h)
      subst hR
      exact hret _ _ dX12_way_25
    · have h := sat_f c15 h
      refine lv_iload_n hx hb dX12_way_18 rfl (lv_at hl 2 rfl) ?_
      refine lv_iload_n hx hb dX12_way_19 rfl (lv_at hl 0 rfl) ?_
      refine lv_icmp_le (tgt := 26) hx hb dX12_way_20 (by decide) (fun c20 => ?_) (fun c20 => ?_)
      · have h := sat_t c20 h
        refine lv_iload_n hx hb dX12_way_26 rfl (lv_at hl 2 rfl) ?_
        refine lv_if_ge (tgt := 34) hx hb dX12_way_27 (by decide) (fun c27 => ?_) (fun c27 => ?_)
        · have h := sat_t c27 h
          refine lv_aload_n hx hb dX12_way_34 rfl (lv_at hl 1 rfl) ?_
          refine gf_X12_19 hx hb hown hk hP 0 rfl rfl dX12_way_35 ?_
          refine lv_iconst (v := 2) hx hb dX12_way_38 (by decide) ?_
          refine lv_iload_n hx hb dX12_way_39 rfl (lv_at hl 2 rfl) ?_
          refine lv_iadd hx hb dX12_way_40 ?_
          obtain ⟨hi, h⟩ := sat_in h
          refine va_iald hx hb hk.1 hP 1 0 rfl rfl hi dX12_way_41 ?_
          have hR := hC0 _ (sat_some h)
          subst hR
          exact hret _ _ dX12_way_42
        · have h := sat_f c27 h
          refine lv_iload_n hx hb dX12_way_30 rfl (lv_at hl 0 rfl) ?_
          refine lv_goto (tgt := 42) hx hb dX12_way_31 (by decide) ?_
          have hR := hC0 _ (sat_some h)
          subst hR
          exact hret _ _ dX12_way_42
      · have h := sat_f c20 h
        refine lv_bipush (v := (-9)) hx hb dX12_way_23 (by decide) ?_
        have hR := hC0 _ (sat_some h)
        subst hR
        exact hret _ _ dX12_way_25
  · have h := sat_f c2 h
    refine lv_iconst (v := (-1)) hx hb dX12_way_5 (by decide) ?_
    have hR := hC0 _ (sat_some h)
    subst hR
    exact hret _ _ dX12_way_6
