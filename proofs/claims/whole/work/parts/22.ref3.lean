def f_X12_laysPath_L24 (m_nodes : Int32) (m_age : Int32) (m_first : Int32) (m_now : ar) (x2 : Int32) (N : Nat) : Nat → Int32 → Int32 → Int32 → Int32 → ar → Option ((Bool × Int32 × Int32 × ar) ⊕ (Int32 × Int32 × ar))
  | 0, _, _, _, _, _ => none
  | n + 1, x3_24, x4_24, m_pathMany_24, m_pathDelay_24, m_path_24 => if x4_24 = x2 then some (.inr (m_pathMany_24, m_pathDelay_24, m_path_24)) else Option.bind (f_X12_bestOf N m_nodes m_age m_first m_now x4_24 x2) fun r_1 => if r_1 = (-9) then some (.inl (false, m_pathMany_24, m_pathDelay_24, m_path_24)) else Option.bind (f_X12_has x3_24 r_1) fun r_2 => if (b2i r_2) = 0 then Option.bind (f_X12_delay m_now x4_24 r_1) fun r_3 => ck (inb m_pathMany_24 6) (f_X12_laysPath_L24 m_nodes m_age m_first m_now x2 N n (x3_24 ||| (1 <<< (r_1 &&& 31))) r_1 (m_pathMany_24 + 1) (m_pathDelay_24 + r_3) (upd m_path_24 m_pathMany_24.toNatClampNeg r_1)) else some (.inl (false, m_pathMany_24, m_pathDelay_24, m_path_24))
def f_X12_laysPath (N : Nat) (m_nodes : Int32) (m_age : Int32) (m_first : Int32) (m_now : ar) (m_path : ar) (x1 : Int32) (x2 : Int32) : Option (Bool × Int32 × Int32 × ar) := ck (inb 0 6) (lb (f_X12_laysPath_L24 m_nodes m_age m_first m_now x2 N N (1 <<< (x1 &&& 31)) x1 1 0 (upd m_path (0 : Int32).toNatClampNeg x1)) fun s24 => some (true, s24.1, s24.2.1, s24.2.2))
abbrev rm_X12_laysPath : Room := { frames := 3, cells := 0, slots := 0, locals := 71 }
set_option maxRecDepth 100000 in
set_option maxHeartbeats 4000000 in
theorem k_X12_laysPath (l : Launch) (D : va_G) (cI cZ cK : ClassId) (N : Nat) (a0 a1 a2 a3 a4 a5 a6 a7 a8 a9 a10 a11 : Nat) (m_nodes : Int32) (m_every : Int32) (m_halves : Int32) (m_age : Int32) (m_life : Int32) (m_first : Int32) (m_undoMany : Int32) (m_undoAt : Int32) (m_letterMany : Int32) (m_readAt : Int32) (m_tokenAt : Int32) (m_token : Int32) (m_newNodes : Int32) (m_newEvery : Int32) (m_newHalves : Int32) (m_newAge : Int32) (m_newLife : Int32) (m_newFirst : Int32) (m_newLinks : Int32) (m_pathMany : Int32) (m_pathDelay : Int32) (m_seenMany : Int32) (m_now : ar) (m_path : ar) (x1 : Int32) (x2 : Int32) (R : Bool × Int32 × Int32 × ar) (h : f_X12_laysPath N m_nodes m_age m_first m_now m_path x1 x2 = some R) : Mu l D cI cZ cK yX12_laysPath cX12_laysPath 6 (some .boolean) rm_X12_laysPath [.ref a0, .int x1, .int x2] [(a0, .inr (12, [.int m_nodes, .int m_every, .int m_halves, .int m_age, .int m_life, .int m_first, .ref a1, .int m_undoMany, .int m_undoAt, .ref a2, .ref a3, .ref a4, .int m_letterMany, .ref a5, .int m_readAt, .int m_tokenAt, .int m_token, .int m_newNodes, .int m_newEvery, .int m_newHalves, .int m_newAge, .int m_newLife, .int m_newFirst, .int m_newLinks, .ref a6, .int m_pathMany, .int m_pathDelay, .ref a7, .ref a8, .int m_seenMany, .ref a9, .ref a10, .ref a11])), (a1, .inl (cI, 622, .inl m_now)), (a7, .inl (cI, 6, .inl m_path))] (some (.int (b2i R.1))) [(a0, .inr (12, [.int m_nodes, .int m_every, .int m_halves, .int m_age, .int m_life, .int m_first, .ref a1, .int m_undoMany, .int m_undoAt, .ref a2, .ref a3, .ref a4, .int m_letterMany, .ref a5, .int m_readAt, .int m_tokenAt, .int m_token, .int m_newNodes, .int m_newEvery, .int m_newHalves, .int m_newAge, .int m_newLife, .int m_newFirst, .int m_newLinks, .ref a6, .int R.2.1, .int R.2.2.1, .ref a7, .ref a8, .int m_seenMany, .ref a9, .ref a10, .ref a11])), (a1, .inl (cI, 622, .inl m_now)), (a7, .inl (cI, 6, .inl R.2.2.2))] := by
  refine mi_of (by decide) (nar_b _) (Nat.le_of_ble_eq_true rfl) ?_
  intro p e s m args below meth c Q A ls hx hb hml hown hk hA w hret hl
  have hl : lv_has ls 6 [(0, .ref a0), (1, .int x1), (2, .int x2)] := hl
  obtain ⟨C0, hC0, h⟩ := sat_top h
  unfold f_X12_laysPath at h
  refine lv_aload_n hx hb dX12_laysPath_0 rfl (lv_at hl 0 rfl) ?_
  refine gf_X12_39 hx hb hown hk w.1 0 rfl rfl dX12_laysPath_1 ?_
  refine lv_iconst (v := 0) hx hb dX12_laysPath_4 (by decide) ?_
  refine lv_iload_n hx hb dX12_laysPath_5 rfl (lv_at hl 1 rfl) ?_
  obtain ⟨hi, h⟩ := sat_in h
  refine ra_ist (ws' := [(a0, .inr (12, [.int m_nodes, .int m_every, .int m_halves, .int m_age, .int m_life, .int m_first, .ref a1, .int m_undoMany, .int m_undoAt, .ref a2, .ref a3, .ref a4, .int m_letterMany, .ref a5, .int m_readAt, .int m_tokenAt, .int m_token, .int m_newNodes, .int m_newEvery, .int m_newHalves, .int m_newAge, .int m_newLife, .int m_newFirst, .int m_newLinks, .ref a6, .int m_pathMany, .int m_pathDelay, .ref a7, .ref a8, .int m_seenMany, .ref a9, .ref a10, .ref a11])), (a1, .inl (cI, 622, .inl m_now)), (a7, .inl (cI, 6, .inl (upd m_path (0 : Int32).toNatClampNeg x1)))]) hx hb hk w 2 rfl hi rfl dX12_laysPath_6 (fun H locs w => ?_)
  refine lv_aload_n hx hb dX12_laysPath_7 rfl (lv_at hl 0 rfl) ?_
  refine lv_iconst (v := 1) hx hb dX12_laysPath_8 (by decide) ?_
  refine pf_X12_182 (ws' := [(a0, .inr (12, [.int m_nodes, .int m_every, .int m_halves, .int m_age, .int m_life, .int m_first, .ref a1, .int m_undoMany, .int m_undoAt, .ref a2, .ref a3, .ref a4, .int m_letterMany, .ref a5, .int m_readAt, .int m_tokenAt, .int m_token, .int m_newNodes, .int m_newEvery, .int m_newHalves, .int m_newAge, .int m_newLife, .int m_newFirst, .int m_newLinks, .ref a6, .int 1, .int m_pathDelay, .ref a7, .ref a8, .int m_seenMany, .ref a9, .ref a10, .ref a11])), (a1, .inl (cI, 622, .inl m_now)), (a7, .inl (cI, 6, .inl (upd m_path (0 : Int32).toNatClampNeg x1)))]) hx hb hown hk w 0 rfl (Nat.le_of_ble_eq_true rfl) rfl dX12_laysPath_9 (fun H locs w => ?_)
  refine lv_aload_n hx hb dX12_laysPath_12 rfl (lv_at hl 0 rfl) ?_
  refine lv_iconst (v := 0) hx hb dX12_laysPath_13 (by decide) ?_
  refine pf_X12_185 (ws' := [(a0, .inr (12, [.int m_nodes, .int m_every, .int m_halves, .int m_age, .int m_life, .int m_first, .ref a1, .int m_undoMany, .int m_undoAt, .ref a2, .ref a3, .ref a4, .int m_letterMany, .ref a5, .int m_readAt, .int m_tokenAt, .int m_token, .int m_newNodes, .int m_newEvery, .int m_newHalves, .int m_newAge, .int m_newLife, .int m_newFirst, .int m_newLinks, .ref a6, .int 1, .int 0, .ref a7, .ref a8, .int m_seenMany, .ref a9, .ref a10, .ref a11])), (a1, .inl (cI, 622, .inl m_now)), (a7, .inl (cI, 6, .inl (upd m_path (0 : Int32).toNatClampNeg x1)))]) hx hb hown hk w 0 rfl (Nat.le_of_ble_eq_true rfl) rfl dX12_laysPath_14 (fun H locs w => ?_)
  refine lv_iconst (v := 1) hx hb dX12_laysPath_17 (by decide) ?_
  refine lv_iload_n hx hb dX12_laysPath_18 rfl (lv_at hl 1 rfl) ?_
  refine lv_ishl hx hb dX12_laysPath_19 ?_
  refine lv_istore_n (lv' := [(3, .int (1 <<< (x1 &&& 31))), (0, .ref a0), (1, .int x1), (2, .int x2)]) hx hb dX12_laysPath_20 rfl hl (by decide) rfl (fun ls hl => ?_)
  refine lv_iload_n hx hb dX12_laysPath_21 rfl (lv_at hl 2 rfl) ?_
  refine lv_istore (lv' := [(4, .int x1), (3, .int (1 <<< (x1 &&& 31))), (0, .ref a0), (1, .int x1), (2, .int x2)]) hx hb dX12_laysPath_22 hl (by decide) rfl (fun ls hl => ?_)
  obtain ⟨T24, hr24, hT24, h⟩ := sat_lbr h
  have E24 : ∀ (m_pathMany_4 : Int32) (m_pathDelay_5 : Int32) (m_path_6 : ar) (H : Heap) (locs : List Loc) (ls : Array Slot), T24 (.inr (m_pathMany_4, m_pathDelay_5, m_path_6)) → wd D A s.heap H locs [(a0, .inr (12, [.int m_nodes, .int m_every, .int m_halves, .int m_age, .int m_life, .int m_first, .ref a1, .int m_undoMany, .int m_undoAt, .ref a2, .ref a3, .ref a4, .int m_letterMany, .ref a5, .int m_readAt, .int m_tokenAt, .int m_token, .int m_newNodes, .int m_newEvery, .int m_newHalves, .int m_newAge, .int m_newLife, .int m_newFirst, .int m_newLinks, .ref a6, .int m_pathMany_4, .int m_pathDelay_5, .ref a7, .ref a8, .int m_seenMany, .ref a9, .ref a10, .ref a11])), (a1, .inl (cI, 622, .inl m_now)), (a7, .inl (cI, 6, .inl m_path_6))] → lv_has ls 6 [] → W p l e rm_X12_laysPath s m args below meth c H locs 0 0 Q (F0 m 109 ls []) := by
    intro m_pathMany_4 m_pathDelay_5 m_path_6 H locs ls h w hl
    have h := hT24 _ h
    dsimp only at h
    refine lv_iconst (v := 1) hx hb dX12_laysPath_109 (by decide) ?_
    have hR := hC0 _ (sat_some h)
    subst hR
    exact hret _ _ _ _ w dX12_laysPath_110
  have L24 : ∀ (n : Nat) (x3_24 : Int32) (x4_24 : Int32) (m_pathMany_24 : Int32) (m_pathDelay_24 : Int32) (m_path_24 : ar) (H : Heap) (locs : List Loc) (ls : Array Slot), sat (f_X12_laysPath_L24 m_nodes m_age m_first m_now x2 N n x3_24 x4_24 m_pathMany_24 m_pathDelay_24 m_path_24) T24 → wd D A s.heap H locs [(a0, .inr (12, [.int m_nodes, .int m_every, .int m_halves, .int m_age, .int m_life, .int m_first, .ref a1, .int m_undoMany, .int m_undoAt, .ref a2, .ref a3, .ref a4, .int m_letterMany, .ref a5, .int m_readAt, .int m_tokenAt, .int m_token, .int m_newNodes, .int m_newEvery, .int m_newHalves, .int m_newAge, .int m_newLife, .int m_newFirst, .int m_newLinks, .ref a6, .int m_pathMany_24, .int m_pathDelay_24, .ref a7, .ref a8, .int m_seenMany, .ref a9, .ref a10, .ref a11])), (a1, .inl (cI, 622, .inl m_now)), (a7, .inl (cI, 6, .inl m_path_24))] → lv_has ls 6 [(0, .ref a0), (2, .int x2), (3, .int x3_24), (4, .int x4_24)] → W p l e rm_X12_laysPath s m args below meth c H locs 0 0 Q (F0 m 24 ls []) := by
    intro n
    induction n with
    | zero =>
      intro x3_24 x4_24 m_pathMany_24 m_pathDelay_24 m_path_24 H locs ls h
      rw [f_X12_laysPath_L24] at h
      exact (sat_none h).elim
    | succ n ih =>
      intro x3_24 x4_24 m_pathMany_24 m_pathDelay_24 m_path_24 H locs ls h w hl
      rw [f_X12_laysPath_L24] at h
      refine lv_iload hx hb dX12_laysPath_24 (lv_at hl 3 rfl) ?_
      refine lv_iload_n hx hb dX12_laysPath_26 rfl (lv_at hl 1 rfl) ?_
      refine lv_icmp_eq (tgt := 109) hx hb dX12_laysPath_27 (by decide) (fun c27 => ?_) (fun c27 => ?_)
      · have h := sat_t c27 h
        exact E24 m_pathMany_24 m_pathDelay_24 m_path_24 _ _ _ (sat_some h) w (lv_sub hl [] rfl)
      · have h := sat_f c27 h
        refine lv_aload_n hx hb dX12_laysPath_30 rfl (lv_at hl 0 rfl) ?_
        refine lv_iload hx hb dX12_laysPath_31 (lv_at hl 3 rfl) ?_
        refine lv_iload_n hx hb dX12_laysPath_33 rfl (lv_at hl 1 rfl) ?_
        obtain ⟨r_1, e_1, h⟩ := sat_bind h
        refine cRV (rest := []) hx hb hml hown hk (k_X12_bestOf l D cI cZ cK N a0 a1 a2 a3 a4 a5 a6 a7 a8 a9 a10 a11 m_nodes m_every m_halves m_age m_life m_first m_undoMany m_undoAt m_letterMany m_readAt m_tokenAt m_token m_newNodes m_newEvery m_newHalves m_newAge m_newLife m_newFirst m_newLinks m_pathMany_24 m_pathDelay_24 m_seenMany m_now x4_24 x2 r_1 e_1) (me_X12_bestOf hk.2.1) (mi_X12_bestOf hk.2.1) (ml_X12_155 hk.2.1) (w.1.sub [0, 1] rfl) 0 rfl rfl rfl hl.1 rfl rfl (Nat.le_of_ble_eq_true rfl) ⟨rfl, rfl, Nat.le_of_ble_eq_true rfl, Nat.le_of_ble_eq_true rfl, Nat.zero_le _, Nat.zero_le _⟩ dX12_laysPath_34 ?_
        refine lv_istore (lv' := [(5, .int r_1), (0, .ref a0), (2, .int x2), (3, .int x3_24), (4, .int x4_24)]) hx hb dX12_laysPath_37 hl (by decide) rfl (fun ls hl => ?_)
        refine lv_iload hx hb dX12_laysPath_39 (lv_at hl 0 rfl) ?_
        refine lv_bipush (v := (-9)) hx hb dX12_laysPath_41 (by decide) ?_
        refine lv_icmp_eq (tgt := 55) hx hb dX12_laysPath_43 (by decide) (fun c43 => ?_) (fun c43 => ?_)
        · have h := sat_t c43 h
          refine lv_iconst (v := 0) hx hb dX12_laysPath_55 (by decide) ?_
          have hR := hC0 _ (hr24 _ (sat_some h))
          subst hR
          exact hret _ _ _ _ w dX12_laysPath_56
        · have h := sat_f c43 h
          refine lv_iload_n hx hb dX12_laysPath_46 rfl (lv_at hl 3 rfl) ?_
          refine lv_iload hx hb dX12_laysPath_47 (lv_at hl 0 rfl) ?_
          obtain ⟨r_2, e_2, h⟩ := sat_bind h
          refine cRS (rest := []) hx hb hml hown hk (k_X12_has l D cI cZ cK x3_24 r_1 r_2 e_2) (me_X12_has hk.2.1) (ms_X12_has hk.2.1) (ml_X12_188 hk.2.1) (w.1.sub [] rfl) hl.1 rfl rfl (Nat.le_of_ble_eq_true rfl) ⟨rfl, rfl, Nat.le_of_ble_eq_true rfl, Nat.le_of_ble_eq_true rfl, Nat.zero_le _, Nat.zero_le _⟩ dX12_laysPath_49 ?_
          refine lv_if_eq (tgt := 57) hx hb dX12_laysPath_52 (by decide) (fun c52 => ?_) (fun c52 => ?_)
          · have h := sat_t c52 h
            refine lv_aload_n hx hb dX12_laysPath_57 rfl (lv_at hl 1 rfl) ?_
            refine lv_dup hx hb dX12_laysPath_58 rfl ?_
            refine gf_X12_185 hx hb hown hk w.1 0 rfl rfl dX12_laysPath_59 ?_
            refine lv_aload_n hx hb dX12_laysPath_62 rfl (lv_at hl 1 rfl) ?_
            refine lv_iload hx hb dX12_laysPath_63 (lv_at hl 4 rfl) ?_
            refine lv_iload hx hb dX12_laysPath_65 (lv_at hl 0 rfl) ?_
            obtain ⟨r_3, e_3, h⟩ := sat_bind h
            refine cRV (rest := [.int m_pathDelay_24, .ref a0]) hx hb hml hown hk (k_X12_delay l D cI cZ cK a0 a1 a2 a3 a4 a5 a6 a7 a8 a9 a10 a11 m_nodes m_every m_halves m_age m_life m_first m_undoMany m_undoAt m_letterMany m_readAt m_tokenAt m_token m_newNodes m_newEvery m_newHalves m_newAge m_newLife m_newFirst m_newLinks m_pathMany_24 m_pathDelay_24 m_seenMany m_now x4_24 r_1 r_3 e_3) (me_X12_delay hk.2.1) (mi_X12_delay hk.2.1) (ml_X12_143 hk.2.1) (w.1.sub [0, 1] rfl) 0 rfl rfl rfl hl.1 rfl rfl (Nat.le_of_ble_eq_true rfl) ⟨rfl, rfl, Nat.le_of_ble_eq_true rfl, Nat.le_of_ble_eq_true rfl, Nat.zero_le _, Nat.zero_le _⟩ dX12_laysPath_67 ?_
            refine lv_iadd hx hb dX12_laysPath_70 ?_
            refine pf_X12_185 (ws' := [(a0, .inr (12, [.int m_nodes, .int m_every, .int m_halves, .int m_age, .int m_life, .int m_first, .ref a1, .int m_undoMany, .int m_undoAt, .ref a2, .ref a3, .ref a4, .int m_letterMany, .ref a5, .int m_readAt, .int m_tokenAt, .int m_token, .int m_newNodes, .int m_newEvery, .int m_newHalves, .int m_newAge, .int m_newLife, .int m_newFirst, .int m_newLinks, .ref a6, .int m_pathMany_24, .int (m_pathDelay_24 + r_3), .ref a7, .ref a8, .int m_seenMany, .ref a9, .ref a10, .ref a11])), (a1, .inl (cI, 622, .inl m_now)), (a7, .inl (cI, 6, .inl m_path_24))]) hx hb hown hk w 0 rfl (Nat.le_of_ble_eq_true rfl) rfl dX12_laysPath_71 (fun H locs w => ?_)
            refine lv_iload_n hx hb dX12_laysPath_74 rfl (lv_at hl 3 rfl) ?_
            refine lv_iconst (v := 1) hx hb dX12_laysPath_75 (by decide) ?_
            refine lv_iload hx hb dX12_laysPath_76 (lv_at hl 0 rfl) ?_
            refine lv_ishl hx hb dX12_laysPath_78 ?_
            refine lv_ior hx hb dX12_laysPath_79 ?_
            refine lv_istore_n (lv' := [(3, .int (x3_24 ||| (1 <<< (r_1 &&& 31)))), (5, .int r_1), (0, .ref a0), (2, .int x2), (4, .int x4_24)]) hx hb dX12_laysPath_80 rfl hl (by decide) rfl (fun ls hl => ?_)
            refine lv_aload_n hx hb dX12_laysPath_81 rfl (lv_at hl 2 rfl) ?_
            refine gf_X12_39 hx hb hown hk w.1 0 rfl rfl dX12_laysPath_82 ?_
            refine lv_aload_n hx hb dX12_laysPath_85 rfl (lv_at hl 2 rfl) ?_
            refine gf_X12_182 hx hb hown hk w.1 0 rfl rfl dX12_laysPath_86 ?_
            refine lv_iload hx hb dX12_laysPath_89 (lv_at hl 1 rfl) ?_
            obtain ⟨hi, h⟩ := sat_in h
            refine ra_ist (ws' := [(a0, .inr (12, [.int m_nodes, .int m_every, .int m_halves, .int m_age, .int m_life, .int m_first, .ref a1, .int m_undoMany, .int m_undoAt, .ref a2, .ref a3, .ref a4, .int m_letterMany, .ref a5, .int m_readAt, .int m_tokenAt, .int m_token, .int m_newNodes, .int m_newEvery, .int m_newHalves, .int m_newAge, .int m_newLife, .int m_newFirst, .int m_newLinks, .ref a6, .int m_pathMany_24, .int (m_pathDelay_24 + r_3), .ref a7, .ref a8, .int m_seenMany, .ref a9, .ref a10, .ref a11])), (a1, .inl (cI, 622, .inl m_now)), (a7, .inl (cI, 6, .inl (upd m_path_24 m_pathMany_24.toNatClampNeg r_1)))]) hx hb hk w 2 rfl hi rfl dX12_laysPath_91 (fun H locs w => ?_)
            refine lv_aload_n hx hb dX12_laysPath_92 rfl (lv_at hl 2 rfl) ?_
            refine lv_dup hx hb dX12_laysPath_93 rfl ?_
            refine gf_X12_182 hx hb hown hk w.1 0 rfl rfl dX12_laysPath_94 ?_
            refine lv_iconst (v := 1) hx hb dX12_laysPath_97 (by decide) ?_
            refine lv_iadd hx hb dX12_laysPath_98 ?_
            refine pf_X12_182 (ws' := [(a0, .inr (12, [.int m_nodes, .int m_every, .int m_halves, .int m_age, .int m_life, .int m_first, .ref a1, .int m_undoMany, .int m_undoAt, .ref a2, .ref a3, .ref a4, .int m_letterMany, .ref a5, .int m_readAt, .int m_tokenAt, .int m_token, .int m_newNodes, .int m_newEvery, .int m_newHalves, .int m_newAge, .int m_newLife, .int m_newFirst, .int m_newLinks, .ref a6, .int (m_pathMany_24 + 1), .int (m_pathDelay_24 + r_3), .ref a7, .ref a8, .int m_seenMany, .ref a9, .ref a10, .ref a11])), (a1, .inl (cI, 622, .inl m_now)), (a7, .inl (cI, 6, .inl (upd m_path_24 m_pathMany_24.toNatClampNeg r_1)))]) hx hb hown hk w 0 rfl (Nat.le_of_ble_eq_true rfl) rfl dX12_laysPath_99 (fun H locs w => ?_)
            refine lv_iload hx hb dX12_laysPath_102 (lv_at hl 1 rfl) ?_
            refine lv_istore (lv' := [(4, .int r_1), (3, .int (x3_24 ||| (1 <<< (r_1 &&& 31)))), (5, .int r_1), (0, .ref a0), (2, .int x2)]) hx hb dX12_laysPath_104 hl (by decide) rfl (fun ls hl => ?_)
            refine lv_goto (tgt := 24) hx hb dX12_laysPath_106 (by decide) ?_
            exact ih (x3_24 ||| (1 <<< (r_1 &&& 31))) r_1 (m_pathMany_24 + 1) (m_pathDelay_24 + r_3) (upd m_path_24 m_pathMany_24.toNatClampNeg r_1) _ _ _ h w (lv_sub hl [3, 4, 1, 0] rfl)
          · have h := sat_f c52 h
            refine lv_iconst (v := 0) hx hb dX12_laysPath_55 (by decide) ?_
            have hR := hC0 _ (hr24 _ (sat_some h))
            subst hR
            exact hret _ _ _ _ w dX12_laysPath_56
  exact L24 N (1 <<< (x1 &&& 31)) x1 1 0 (upd m_path (0 : Int32).toNatClampNeg x1) _ _ _ h w (lv_sub hl [2, 4, 1, 0] rfl)
def f_X12_path (N : Nat) (m_nodes : Int32) (m_age : Int32) (m_first : Int32) (m_now : ar) (m_pathMany : Int32) (m_pathDelay : Int32) (m_path : ar) (x1 : Int32) (x2 : Int32) (x3 : Int32) : Option (Int32 × Int32 × Int32 × ar) := Option.bind (f_X12_isNode m_nodes x1) fun r_1 => if (b2i r_1) = 0 then some ((-1), m_pathMany, m_pathDelay, m_path) else Option.bind (f_X12_isNode m_nodes x2) fun r_2 => if (b2i r_2) = 0 then some ((-1), m_pathMany, m_pathDelay, m_path) else if x1 = x2 then some ((-1), m_pathMany, m_pathDelay, m_path) else if (-1) ≤ x3 then Option.bind (f_X12_laysPath N m_nodes m_age m_first m_now m_path x1 x2) fun r_3 => if 0 ≤ x3 then if r_3.2.1 ≤ x3 then some ((-9), r_3.2.1, r_3.2.2.1, r_3.2.2.2) else ck (inb x3 6) (some (r_3.2.2.2 x3.toNatClampNeg, r_3.2.1, r_3.2.2.1, r_3.2.2.2)) else some (r_3.2.1, r_3.2.1, r_3.2.2.1, r_3.2.2.2) else some ((-1), m_pathMany, m_pathDelay, m_path)
abbrev rm_X12_path : Room := { frames := 4, cells := 0, slots := 0, locals := 96 }
set_option maxRecDepth 100000 in
set_option maxHeartbeats 4000000 in
theorem k_X12_path (l : Launch) (D : va_G) (cI cZ cK : ClassId) (N : Nat) (a0 a1 a2 a3 a4 a5 a6 a7 a8 a9 a10 a11 : Nat) (m_nodes : Int32) (m_every : Int32) (m_halves : Int32) (m_age : Int32) (m_life : Int32) (m_first : Int32) (m_undoMany : Int32) (m_undoAt : Int32) (m_letterMany : Int32) (m_readAt : Int32) (m_tokenAt : Int32) (m_token : Int32) (m_newNodes : Int32) (m_newEvery : Int32) (m_newHalves : Int32) (m_newAge : Int32) (m_newLife : Int32) (m_newFirst : Int32) (m_newLinks : Int32) (m_pathMany : Int32) (m_pathDelay : Int32) (m_seenMany : Int32) (m_now : ar) (m_path : ar) (x1 : Int32) (x2 : Int32) (x3 : Int32) (R : Int32 × Int32 × Int32 × ar) (h : f_X12_path N m_nodes m_age m_first m_now m_pathMany m_pathDelay m_path x1 x2 x3 = some R) : Mu l D cI cZ cK yX12_path cX12_path 4 (some .int) rm_X12_path [.ref a0, .int x1, .int x2, .int x3] [(a0, .inr (12, [.int m_nodes, .int m_every, .int m_halves, .int m_age, .int m_life, .int m_first, .ref a1, .int m_undoMany, .int m_undoAt, .ref a2, .ref a3, .ref a4, .int m_letterMany, .ref a5, .int m_readAt, .int m_tokenAt, .int m_token, .int m_newNodes, .int m_newEvery, .int m_newHalves, .int m_newAge, .int m_newLife, .int m_newFirst, .int m_newLinks, .ref a6, .int m_pathMany, .int m_pathDelay, .ref a7, .ref a8, .int m_seenMany, .ref a9, .ref a10, .ref a11])), (a1, .inl (cI, 622, .inl m_now)), (a7, .inl (cI, 6, .inl m_path))] (some (.int R.1)) [(a0, .inr (12, [.int m_nodes, .int m_every, .int m_halves, .int m_age, .int m_life, .int m_first, .ref a1, .int m_undoMany, .int m_undoAt, .ref a2, .ref a3, .ref a4, .int m_letterMany, .ref a5, .int m_readAt, .int m_tokenAt, .int m_token, .int m_newNodes, .int m_newEvery, .int m_newHalves, .int m_newAge, .int m_newLife, .int m_newFirst, .int m_newLinks, .ref a6, .int R.2.1, .int R.2.2.1, .ref a7, .ref a8, .int m_seenMany, .ref a9, .ref a10, .ref a11])), (a1, .inl (cI, 622, .inl m_now)), (a7, .inl (cI, 6, .inl R.2.2.2))] := by
  refine mi_of (by decide) (vp_nar_int _) (Nat.le_of_ble_eq_true rfl) ?_
  intro p e s m args below meth c Q A ls hx hb hml hown hk hA w hret hl
  have hl : lv_has ls 4 [(0, .ref a0), (1, .int x1), (2, .int x2), (3, .int x3)] := hl
  obtain ⟨C0, hC0, h⟩ := sat_top h
  unfold f_X12_path at h
  refine lv_aload_n hx hb dX12_path_0 rfl (lv_at hl 0 rfl) ?_
  refine lv_iload_n hx hb dX12_path_1 rfl (lv_at hl 1 rfl) ?_
  obtain ⟨r_1, e_1, h⟩ := sat_bind h
  refine cRV (rest := []) hx hb hml hown hk (k_X12_isNode l D cI cZ cK a0 a1 a2 a3 a4 a5 a6 a7 a8 a9 a10 a11 m_nodes m_every m_halves m_age m_life m_first m_undoMany m_undoAt m_letterMany m_readAt m_tokenAt m_token m_newNodes m_newEvery m_newHalves m_newAge m_newLife m_newFirst m_newLinks m_pathMany m_pathDelay m_seenMany x1 r_1 e_1) (me_X12_isNode hk.2.1) (mi_X12_isNode hk.2.1) (ml_X12_162 hk.2.1) (w.1.sub [0] rfl) 0 rfl rfl rfl hl.1 rfl rfl (Nat.le_of_ble_eq_true rfl) ⟨rfl, rfl, Nat.le_of_ble_eq_true rfl, Nat.le_of_ble_eq_true rfl, Nat.zero_le _, Nat.zero_le _⟩ dX12_path_2 ?_
  refine lv_if_eq (tgt := 26) hx hb dX12_path_5 (by decide) (fun c5 => ?_) (fun c5 => ?_)
  · have h := sat_t c5 h
    refine lv_iconst (v := (-1)) hx hb dX12_path_26 (by decide) ?_
    have hR := hC0 _ (sat_some h)
    subst hR
    exact hret _ _ _ _ w dX12_path_27
  · have h := sat_f c5 h
    refine lv_aload_n hx hb dX12_path_8 rfl (lv_at hl 0 rfl) ?_
    refine lv_iload_n hx hb dX12_path_9 rfl (lv_at hl 2 rfl) ?_
    obtain ⟨r_2, e_2, h⟩ := sat_bind h
    refine cRV (rest := []) hx hb hml hown hk (k_X12_isNode l D cI cZ cK a0 a1 a2 a3 a4 a5 a6 a7 a8 a9 a10 a11 m_nodes m_every m_halves m_age m_life m_first m_undoMany m_undoAt m_letterMany m_readAt m_tokenAt m_token m_newNodes m_newEvery m_newHalves m_newAge m_newLife m_newFirst m_newLinks m_pathMany m_pathDelay m_seenMany x2 r_2 e_2) (me_X12_isNode hk.2.1) (mi_X12_isNode hk.2.1) (ml_X12_162 hk.2.1) (w.1.sub [0] rfl) 0 rfl rfl rfl hl.1 rfl rfl (Nat.le_of_ble_eq_true rfl) ⟨rfl, rfl, Nat.le_of_ble_eq_true rfl, Nat.le_of_ble_eq_true rfl, Nat.zero_le _, Nat.zero_le _⟩ dX12_path_10 ?_
    refine lv_if_eq (tgt := 26) hx hb dX12_path_13 (by decide) (fun c13 => ?_) (fun c13 => ?_)
    · have h := sat_t c13 h
      refine lv_iconst (v := (-1)) hx hb dX12_path_26 (by decide) ?_
      have hR := hC0 _ (sat_some h)
      subst hR
      exact hret _ _ _ _ w dX12_path_27
    · have h := sat_f c13 h
      refine lv_iload_n hx hb dX12_path_16 rfl (lv_at hl 1 rfl) ?_
      refine lv_iload_n hx hb dX12_path_17 rfl (lv_at hl 2 rfl) ?_
      refine lv_icmp_eq (tgt := 26) hx hb dX12_path_18 (by decide) (fun c18 => ?_) (fun c18 => ?_)
      · have h := sat_t c18 h
        refine lv_iconst (v := (-1)) hx hb dX12_path_26 (by decide) ?_
        have hR := hC0 _ (sat_some h)
        subst hR
        exact hret _ _ _ _ w dX12_path_27
      · have h := sat_f c18 h
        refine lv_iload_n hx hb dX12_path_21 rfl (lv_at hl 3 rfl) ?_
        refine lv_iconst (v := (-1)) hx hb dX12_path_22 (by decide) ?_
        refine lv_icmp_ge (tgt := 28) hx hb dX12_path_23 (by decide) (fun c23 => ?_) (fun c23 => ?_)
        · have h := sat_t c23 h
          refine lv_aload_n hx hb dX12_path_28 rfl (lv_at hl 0 rfl) ?_
          refine lv_iload_n hx hb dX12_path_29 rfl (lv_at hl 1 rfl) ?_
          refine lv_iload_n hx hb dX12_path_30 rfl (lv_at hl 2 rfl) ?_
          obtain ⟨r_3, e_3, h⟩ := sat_bind h
          refine cMV (rest := []) (wr := []) (ws' := [(a0, .inr (12, [.int m_nodes, .int m_every, .int m_halves, .int m_age, .int m_life, .int m_first, .ref a1, .int m_undoMany, .int m_undoAt, .ref a2, .ref a3, .ref a4, .int m_letterMany, .ref a5, .int m_readAt, .int m_tokenAt, .int m_token, .int m_newNodes, .int m_newEvery, .int m_newHalves, .int m_newAge, .int m_newLife, .int m_newFirst, .int m_newLinks, .ref a6, .int r_3.2.1, .int r_3.2.2.1, .ref a7, .ref a8, .int m_seenMany, .ref a9, .ref a10, .ref a11])), (a1, .inl (cI, 622, .inl m_now)), (a7, .inl (cI, 6, .inl r_3.2.2.2))]) hx hb hml hown hk w hA (k_X12_laysPath l D cI cZ cK N a0 a1 a2 a3 a4 a5 a6 a7 a8 a9 a10 a11 m_nodes m_every m_halves m_age m_life m_first m_undoMany m_undoAt m_letterMany m_readAt m_tokenAt m_token m_newNodes m_newEvery m_newHalves m_newAge m_newLife m_newFirst m_newLinks m_pathMany m_pathDelay m_seenMany m_now m_path x1 x2 r_3 e_3) (me_X12_laysPath hk.2.1) (mi_X12_laysPath hk.2.1) (ml_X12_191 hk.2.1) ((pmn 3 [0, 1, 2] rfl rfl (by decide))) ((pmn 3 [0, 1, 2] rfl rfl (by decide))) 0 rfl rfl rfl hl.1 rfl rfl (Nat.le_of_ble_eq_true rfl) ⟨rfl, rfl, Nat.le_of_ble_eq_true rfl, Nat.le_of_ble_eq_true rfl, Nat.zero_le _, Nat.zero_le _⟩ dX12_path_31 (fun H locs w => ?_)
          refine W.eq (g2 := F0 m 34 ls [.int (b2i r_3.1)]) rfl ?_
          refine lv_pop hx hb dX12_path_34 rfl ?_
          refine lv_iload_n hx hb dX12_path_35 rfl (lv_at hl 3 rfl) ?_
          refine lv_if_ge (tgt := 46) hx hb dX12_path_36 (by decide) (fun c36 => ?_) (fun c36 => ?_)
          · have h := sat_t c36 h
            refine lv_iload_n hx hb dX12_path_46 rfl (lv_at hl 3 rfl) ?_
            refine lv_aload_n hx hb dX12_path_47 rfl (lv_at hl 0 rfl) ?_
            refine gf_X12_182 hx hb hown hk w.1 0 rfl rfl dX12_path_48 ?_
            refine lv_icmp_ge (tgt := 63) hx hb dX12_path_51 (by decide) (fun c51 => ?_) (fun c51 => ?_)
            · have h := sat_t c51 h
              refine lv_bipush (v := (-9)) hx hb dX12_path_63 (by decide) ?_
              have hR := hC0 _ (sat_some h)
              subst hR
              exact hret _ _ _ _ w dX12_path_65
            · have h := sat_f c51 h
              refine lv_aload_n hx hb dX12_path_54 rfl (lv_at hl 0 rfl) ?_
              refine gf_X12_39 hx hb hown hk w.1 0 rfl rfl dX12_path_55 ?_
              refine lv_iload_n hx hb dX12_path_58 rfl (lv_at hl 3 rfl) ?_
              obtain ⟨hi, h⟩ := sat_in h
              refine va_iald hx hb hk.1 w.1 2 0 rfl rfl hi dX12_path_59 ?_
              refine lv_goto (tgt := 65) hx hb dX12_path_60 (by decide) ?_
              have hR := hC0 _ (sat_some h)
              subst hR
              exact hret _ _ _ _ w dX12_path_65
          · have h := sat_f c36 h
            refine lv_aload_n hx hb dX12_path_39 rfl (lv_at hl 0 rfl) ?_
            refine gf_X12_182 hx hb hown hk w.1 0 rfl rfl dX12_path_40 ?_
            refine lv_goto (tgt := 65) hx hb dX12_path_43 (by decide) ?_
            have hR := hC0 _ (sat_some h)
            subst hR
            exact hret _ _ _ _ w dX12_path_65
        · have h := sat_f c23 h
          refine lv_iconst (v := (-1)) hx hb dX12_path_26 (by decide) ?_
          have hR := hC0 _ (sat_some h)
          subst hR
          exact hret _ _ _ _ w dX12_path_27
def f_X12_astray_L14 (m_nodes : Int32) (m_age : Int32) (m_first : Int32) (m_now : ar) (x1 : Int32) (N : Nat) : Nat → Int32 → Int32 → Int32 → Int32 → ar → Option (Int32 × Int32 × Int32 × ar)
  | 0, _, _, _, _, _ => none
  | n + 1, x2_14, x3_14, m_pathMany_14, m_pathDelay_14, m_path_14 => if m_nodes ≤ x3_14 then some (x2_14, m_pathMany_14, m_pathDelay_14, m_path_14) else if x3_14 = x1 then f_X12_astray_L14 m_nodes m_age m_first m_now x1 N n (x2_14 + 0) (x3_14 + 1) m_pathMany_14 m_pathDelay_14 m_path_14 else Option.bind (f_X12_laysPath N m_nodes m_age m_first m_now m_path_14 x3_14 x1) fun r_2 => if (b2i r_2.1) = 0 then f_X12_astray_L14 m_nodes m_age m_first m_now x1 N n (x2_14 + 1) (x3_14 + 1) r_2.2.1 r_2.2.2.1 r_2.2.2.2 else f_X12_astray_L14 m_nodes m_age m_first m_now x1 N n (x2_14 + 0) (x3_14 + 1) r_2.2.1 r_2.2.2.1 r_2.2.2.2
def f_X12_astray (N : Nat) (m_nodes : Int32) (m_age : Int32) (m_first : Int32) (m_now : ar) (m_pathMany : Int32) (m_pathDelay : Int32) (m_path : ar) (x1 : Int32) : Option (Int32 × Int32 × Int32 × ar) := Option.bind (f_X12_isNode m_nodes x1) fun r_1 => if (b2i r_1) = 0 then some ((-1), m_pathMany, m_pathDelay, m_path) else Option.bind (f_X12_astray_L14 m_nodes m_age m_first m_now x1 N N 0 0 m_pathMany m_pathDelay m_path) fun s14 => some (s14.1, s14.2.1, s14.2.2.1, s14.2.2.2)
abbrev rm_X12_astray : Room := { frames := 4, cells := 0, slots := 0, locals := 96 }
set_option maxRecDepth 100000 in
set_option maxHeartbeats 4000000 in
theorem k_X12_astray (l : Launch) (D : va_G) (cI cZ cK : ClassId) (N : Nat) (a0 a1 a2 a3 a4 a5 a6 a7 a8 a9 a10 a11 : Nat) (m_nodes : Int32) (m_every : Int32) (m_halves : Int32) (m_age : Int32) (m_life : Int32) (m_first : Int32) (m_undoMany : Int32) (m_undoAt : Int32) (m_letterMany : Int32) (m_readAt : Int32) (m_tokenAt : Int32) (m_token : Int32) (m_newNodes : Int32) (m_newEvery : Int32) (m_newHalves : Int32) (m_newAge : Int32) (m_newLife : Int32) (m_newFirst : Int32) (m_newLinks : Int32) (m_pathMany : Int32) (m_pathDelay : Int32) (m_seenMany : Int32) (m_now : ar) (m_path : ar) (x1 : Int32) (R : Int32 × Int32 × Int32 × ar) (h : f_X12_astray N m_nodes m_age m_first m_now m_pathMany m_pathDelay m_path x1 = some R) : Mu l D cI cZ cK yX12_astray cX12_astray 4 (some .int) rm_X12_astray [.ref a0, .int x1] [(a0, .inr (12, [.int m_nodes, .int m_every, .int m_halves, .int m_age, .int m_life, .int m_first, .ref a1, .int m_undoMany, .int m_undoAt, .ref a2, .ref a3, .ref a4, .int m_letterMany, .ref a5, .int m_readAt, .int m_tokenAt, .int m_token, .int m_newNodes, .int m_newEvery, .int m_newHalves, .int m_newAge, .int m_newLife, .int m_newFirst, .int m_newLinks, .ref a6, .int m_pathMany, .int m_pathDelay, .ref a7, .ref a8, .int m_seenMany, .ref a9, .ref a10, .ref a11])), (a1, .inl (cI, 622, .inl m_now)), (a7, .inl (cI, 6, .inl m_path))] (some (.int R.1)) [(a0, .inr (12, [.int m_nodes, .int m_every, .int m_halves, .int m_age, .int m_life, .int m_first, .ref a1, .int m_undoMany, .int m_undoAt, .ref a2, .ref a3, .ref a4, .int m_letterMany, .ref a5, .int m_readAt, .int m_tokenAt, .int m_token, .int m_newNodes, .int m_newEvery, .int m_newHalves, .int m_newAge, .int m_newLife, .int m_newFirst, .int m_newLinks, .ref a6, .int R.2.1, .int R.2.2.1, .ref a7, .ref a8, .int m_seenMany, .ref a9, .ref a10, .ref a11])), (a1, .inl (cI, 622, .inl m_now)), (a7, .inl (cI, 6, .inl R.2.2.2))] := by
  refine mi_of (by decide) (vp_nar_int _) (Nat.le_of_ble_eq_true rfl) ?_
  intro p e s m args below meth c Q A ls hx hb hml hown hk hA w hret hl
  have hl : lv_has ls 4 [(0, .ref a0), (1, .int x1)] := hl
  obtain ⟨C0, hC0, h⟩ := sat_top h
  unfold f_X12_astray at h
  refine lv_aload_n hx hb dX12_astray_0 rfl (lv_at hl 0 rfl) ?_
  refine lv_iload_n hx hb dX12_astray_1 rfl (lv_at hl 1 rfl) ?_
  obtain ⟨r_1, e_1, h⟩ := sat_bind h
  refine cRV (rest := []) hx hb hml hown hk (k_X12_isNode l D cI cZ cK a0 a1 a2 a3 a4 a5 a6 a7 a8 a9 a10 a11 m_nodes m_every m_halves m_age m_life m_first m_undoMany m_undoAt m_letterMany m_readAt m_tokenAt m_token m_newNodes m_newEvery m_newHalves m_newAge m_newLife m_newFirst m_newLinks m_pathMany m_pathDelay m_seenMany x1 r_1 e_1) (me_X12_isNode hk.2.1) (mi_X12_isNode hk.2.1) (ml_X12_162 hk.2.1) (w.1.sub [0] rfl) 0 rfl rfl rfl hl.1 rfl rfl (Nat.le_of_ble_eq_true rfl) ⟨rfl, rfl, Nat.le_of_ble_eq_true rfl, Nat.le_of_ble_eq_true rfl, Nat.zero_le _, Nat.zero_le _⟩ dX12_astray_2 ?_
  refine lv_if_ne (tgt := 10) hx hb dX12_astray_5 (by decide) (fun c5 => ?_) (fun c5 => ?_)
  · have h := sat_f c5 h
    refine lv_iconst (v := 0) hx hb dX12_astray_10 (by decide) ?_
    refine lv_istore_n (lv' := [(2, .int 0), (0, .ref a0), (1, .int x1)]) hx hb dX12_astray_11 rfl hl (by decide) rfl (fun ls hl => ?_)
    refine lv_iconst (v := 0) hx hb dX12_astray_12 (by decide) ?_
    refine lv_istore_n (lv' := [(3, .int 0), (2, .int 0), (0, .ref a0), (1, .int x1)]) hx hb dX12_astray_13 rfl hl (by decide) rfl (fun ls hl => ?_)
    obtain ⟨T14, hT14, h⟩ := sat_reg h
    have E14 : ∀ (e2_3 : Int32) (m_pathMany_4 : Int32) (m_pathDelay_5 : Int32) (m_path_6 : ar) (H : Heap) (locs : List Loc) (ls : Array Slot), T14 (e2_3, m_pathMany_4, m_pathDelay_5, m_path_6) → wd D A s.heap H locs [(a0, .inr (12, [.int m_nodes, .int m_every, .int m_halves, .int m_age, .int m_life, .int m_first, .ref a1, .int m_undoMany, .int m_undoAt, .ref a2, .ref a3, .ref a4, .int m_letterMany, .ref a5, .int m_readAt, .int m_tokenAt, .int m_token, .int m_newNodes, .int m_newEvery, .int m_newHalves, .int m_newAge, .int m_newLife, .int m_newFirst, .int m_newLinks, .ref a6, .int m_pathMany_4, .int m_pathDelay_5, .ref a7, .ref a8, .int m_seenMany, .ref a9, .ref a10, .ref a11])), (a1, .inl (cI, 622, .inl m_now)), (a7, .inl (cI, 6, .inl m_path_6))] → lv_has ls 4 [(2, .int e2_3)] → W p l e rm_X12_astray s m args below meth c H locs 0 0 Q (F0 m 50 ls []) := by
      intro e2_3 m_pathMany_4 m_pathDelay_5 m_path_6 H locs ls h w hl
      have h := hT14 _ h
      dsimp only at h
      refine lv_iload_n hx hb dX12_astray_50 rfl (lv_at hl 0 rfl) ?_
      have hR := hC0 _ (sat_some h)
      subst hR
      exact hret _ _ _ _ w dX12_astray_51
    have L14 : ∀ (n : Nat) (x2_14 : Int32) (x3_14 : Int32) (m_pathMany_14 : Int32) (m_pathDelay_14 : Int32) (m_path_14 : ar) (H : Heap) (locs : List Loc) (ls : Array Slot), sat (f_X12_astray_L14 m_nodes m_age m_first m_now x1 N n x2_14 x3_14 m_pathMany_14 m_pathDelay_14 m_path_14) T14 → wd D A s.heap H locs [(a0, .inr (12, [.int m_nodes, .int m_every, .int m_halves, .int m_age, .int m_life, .int m_first, .ref a1, .int m_undoMany, .int m_undoAt, .ref a2, .ref a3, .ref a4, .int m_letterMany, .ref a5, .int m_readAt, .int m_tokenAt, .int m_token, .int m_newNodes, .int m_newEvery, .int m_newHalves, .int m_newAge, .int m_newLife, .int m_newFirst, .int m_newLinks, .ref a6, .int m_pathMany_14, .int m_pathDelay_14, .ref a7, .ref a8, .int m_seenMany, .ref a9, .ref a10, .ref a11])), (a1, .inl (cI, 622, .inl m_now)), (a7, .inl (cI, 6, .inl m_path_14))] → lv_has ls 4 [(0, .ref a0), (1, .int x1), (2, .int x2_14), (3, .int x3_14)] → W p l e rm_X12_astray s m args below meth c H locs 0 0 Q (F0 m 14 ls []) := by
      intro n
      induction n with
      | zero =>
        intro x2_14 x3_14 m_pathMany_14 m_pathDelay_14 m_path_14 H locs ls h
        rw [f_X12_astray_L14] at h
        exact (sat_none h).elim
      | succ n ih =>
        intro x2_14 x3_14 m_pathMany_14 m_pathDelay_14 m_path_14 H locs ls h w hl
        rw [f_X12_astray_L14] at h
        refine lv_iload_n hx hb dX12_astray_14 rfl (lv_at hl 3 rfl) ?_
        refine lv_aload_n hx hb dX12_astray_15 rfl (lv_at hl 0 rfl) ?_
        refine gf_X12_7 hx hb hown hk w.1 0 rfl rfl dX12_astray_16 ?_
        refine lv_icmp_ge (tgt := 50) hx hb dX12_astray_19 (by decide) (fun c19 => ?_) (fun c19 => ?_)
        · have h := sat_t c19 h
          exact E14 x2_14 m_pathMany_14 m_pathDelay_14 m_path_14 _ _ _ (sat_some h) w (lv_sub hl [2] rfl)
        · have h := sat_f c19 h
          refine lv_iload_n hx hb dX12_astray_22 rfl (lv_at hl 2 rfl) ?_
          refine lv_iload_n hx hb dX12_astray_23 rfl (lv_at hl 3 rfl) ?_
          refine lv_iload_n hx hb dX12_astray_24 rfl (lv_at hl 1 rfl) ?_
          refine lv_icmp_eq (tgt := 41) hx hb dX12_astray_25 (by decide) (fun c25 => ?_) (fun c25 => ?_)
          · have h := sat_t c25 h
            refine lv_iconst (v := 0) hx hb dX12_astray_41 (by decide) ?_
            refine lv_iadd hx hb dX12_astray_42 ?_
            refine lv_istore_n (lv' := [(2, .int (x2_14 + 0)), (0, .ref a0), (1, .int x1), (3, .int x3_14)]) hx hb dX12_astray_43 rfl hl (by decide) rfl (fun ls hl => ?_)
            refine lv_iinc (v := x3_14 + 1) (lv' := [(3, .int (x3_14 + 1)), (2, .int (x2_14 + 0)), (0, .ref a0), (1, .int x1)]) hx hb dX12_astray_44 hl (k := 3) rfl (congrArg (fun z => x3_14 + z) (by decide)) (by decide) rfl (fun ls hl => ?_)
            refine lv_goto (tgt := 14) hx hb dX12_astray_47 (by decide) ?_
            exact ih (x2_14 + 0) (x3_14 + 1) m_pathMany_14 m_pathDelay_14 m_path_14 _ _ _ h w (lv_sub hl [2, 3, 1, 0] rfl)
          · have h := sat_f c25 h
            refine lv_aload_n hx hb dX12_astray_28 rfl (lv_at hl 0 rfl) ?_
            refine lv_iload_n hx hb dX12_astray_29 rfl (lv_at hl 3 rfl) ?_
            refine lv_iload_n hx hb dX12_astray_30 rfl (lv_at hl 1 rfl) ?_
            obtain ⟨r_2, e_2, h⟩ := sat_bind h
            refine cMV (rest := [.int x2_14]) (wr := []) (ws' := [(a0, .inr (12, [.int m_nodes, .int m_every, .int m_halves, .int m_age, .int m_life, .int m_first, .ref a1, .int m_undoMany, .int m_undoAt, .ref a2, .ref a3, .ref a4, .int m_letterMany, .ref a5, .int m_readAt, .int m_tokenAt, .int m_token, .int m_newNodes, .int m_newEvery, .int m_newHalves, .int m_newAge, .int m_newLife, .int m_newFirst, .int m_newLinks, .ref a6, .int r_2.2.1, .int r_2.2.2.1, .ref a7, .ref a8, .int m_seenMany, .ref a9, .ref a10, .ref a11])), (a1, .inl (cI, 622, .inl m_now)), (a7, .inl (cI, 6, .inl r_2.2.2.2))]) hx hb hml hown hk w hA (k_X12_laysPath l D cI cZ cK N a0 a1 a2 a3 a4 a5 a6 a7 a8 a9 a10 a11 m_nodes m_every m_halves m_age m_life m_first m_undoMany m_undoAt m_letterMany m_readAt m_tokenAt m_token m_newNodes m_newEvery m_newHalves m_newAge m_newLife m_newFirst m_newLinks m_pathMany_14 m_pathDelay_14 m_seenMany m_now m_path_14 x3_14 x1 r_2 e_2) (me_X12_laysPath hk.2.1) (mi_X12_laysPath hk.2.1) (ml_X12_191 hk.2.1) ((pmn 3 [0, 1, 2] rfl rfl (by decide))) ((pmn 3 [0, 1, 2] rfl rfl (by decide))) 0 rfl rfl rfl hl.1 rfl rfl (Nat.le_of_ble_eq_true rfl) ⟨rfl, rfl, Nat.le_of_ble_eq_true rfl, Nat.le_of_ble_eq_true rfl, Nat.zero_le _, Nat.zero_le _⟩ dX12_astray_31 (fun H locs w => ?_)
            refine W.eq (g2 := F0 m 34 ls [.int (b2i r_2.1), .int x2_14]) rfl ?_
            refine lv_if_ne (tgt := 41) hx hb dX12_astray_34 (by decide) (fun c34 => ?_) (fun c34 => ?_)
            · have h := sat_f c34 h
              refine lv_iconst (v := 0) hx hb dX12_astray_41 (by decide) ?_
              refine lv_iadd hx hb dX12_astray_42 ?_
              refine lv_istore_n (lv' := [(2, .int (x2_14 + 0)), (0, .ref a0), (1, .int x1), (3, .int x3_14)]) hx hb dX12_astray_43 rfl hl (by decide) rfl (fun ls hl => ?_)
              refine lv_iinc (v := x3_14 + 1) (lv' := [(3, .int (x3_14 + 1)), (2, .int (x2_14 + 0)), (0, .ref a0), (1, .int x1)]) hx hb dX12_astray_44 hl (k := 3) rfl (congrArg (fun z => x3_14 + z) (by decide)) (by decide) rfl (fun ls hl => ?_)
              refine lv_goto (tgt := 14) hx hb dX12_astray_47 (by decide) ?_
              exact ih (x2_14 + 0) (x3_14 + 1) r_2.2.1 r_2.2.2.1 r_2.2.2.2 _ _ _ h w (lv_sub hl [2, 3, 1, 0] rfl)
            · have h := sat_t c34 h
              refine lv_iconst (v := 1) hx hb dX12_astray_37 (by decide) ?_
              refine lv_goto (tgt := 42) hx hb dX12_astray_38 (by decide) ?_
              refine lv_iadd hx hb dX12_astray_42 ?_
              refine lv_istore_n (lv' := [(2, .int (x2_14 + 1)), (0, .ref a0), (1, .int x1), (3, .int x3_14)]) hx hb dX12_astray_43 rfl hl (by decide) rfl (fun ls hl => ?_)
              refine lv_iinc (v := x3_14 + 1) (lv' := [(3, .int (x3_14 + 1)), (2, .int (x2_14 + 1)), (0, .ref a0), (1, .int x1)]) hx hb dX12_astray_44 hl (k := 3) rfl (congrArg (fun z => x3_14 + z) (by decide)) (by decide) rfl (fun ls hl => ?_)
              refine lv_goto (tgt := 14) hx hb dX12_astray_47 (by decide) ?_
              exact ih (x2_14 + 1) (x3_14 + 1) r_2.2.1 r_2.2.2.1 r_2.2.2.2 _ _ _ h w (lv_sub hl [2, 3, 1, 0] rfl)
    exact L14 N 0 0 m_pathMany m_pathDelay m_path _ _ _ h w (lv_sub hl [2, 3, 1, 0] rfl)
  · have h := sat_t c5 h
    refine lv_iconst (v := (-1)) hx hb dX12_astray_8 (by decide) ?_
    have hR := hC0 _ (sat_some h)
    subst hR
    exact hret _ _ _ _ w dX12_astray_9
def f_X12_laysFar_L12 (m_nodes : Int32) (m_now : ar) (x1 : Int32) (x2_2 : Int32) : Nat → Int32 → ar → Option (ar)
  | 0, _, _ => none
  | n + 1, x3_12, m_far_12 => if m_nodes ≤ x3_12 then some m_far_12 else Option.bind (α := Int32) (if x2_2 = x3_12 then some 0 else Option.bind (f_X12_pair x2_2 x3_12) fun r_2 => if r_2 = x1 then some 0 else Option.bind (f_X12_delay m_now x2_2 x3_12) fun r_3 => some r_3) fun j22 => if x2_2 = x3_12 then ck (inb ((6 * x2_2) + x3_12) 36) (f_X12_laysFar_L12 m_nodes m_now x1 x2_2 n (x3_12 + 1) (upd m_far_12 ((6 * x2_2) + x3_12).toNatClampNeg 0)) else if j22 ≤ 0 then ck (inb ((6 * x2_2) + x3_12) 36) (f_X12_laysFar_L12 m_nodes m_now x1 x2_2 n (x3_12 + 1) (upd m_far_12 ((6 * x2_2) + x3_12).toNatClampNeg 1000)) else ck (inb ((6 * x2_2) + x3_12) 36) (f_X12_laysFar_L12 m_nodes m_now x1 x2_2 n (x3_12 + 1) (upd m_far_12 ((6 * x2_2) + x3_12).toNatClampNeg j22))
def f_X12_laysFar_L2 (m_nodes : Int32) (m_now : ar) (x1 : Int32) (N : Nat) : Nat → Int32 → ar → Option (ar)
  | 0, _, _ => none
  | n + 1, x2_2, m_far_2 => if m_nodes ≤ x2_2 then some m_far_2 else Option.bind (f_X12_laysFar_L12 m_nodes m_now x1 x2_2 N 0 m_far_2) fun s12 => f_X12_laysFar_L2 m_nodes m_now x1 N n (x2_2 + 1) s12
def f_X12_laysFar_L114 (m_nodes : Int32) (x2_93 : Int32) (x3_103 : Int32) : Nat → Int32 → ar → Option (ar)
  | 0, _, _ => none
  | n + 1, x4_114, m_far_114 => if m_nodes ≤ x4_114 then some m_far_114 else ck (inb ((6 * x3_103) + x2_93) 36) (ck (inb ((6 * x2_93) + x4_114) 36) (ck (inb ((6 * x3_103) + x4_114) 36) (if (m_far_114 ((6 * x3_103) + x4_114).toNatClampNeg) ≤ ((m_far_114 ((6 * x3_103) + x2_93).toNatClampNeg) + (m_far_114 ((6 * x2_93) + x4_114).toNatClampNeg)) then ck (inb ((6 * x3_103) + x4_114) 36) (ck (inb ((6 * x3_103) + x4_114) 36) (f_X12_laysFar_L114 m_nodes x2_93 x3_103 n (x4_114 + 1) (upd m_far_114 ((6 * x3_103) + x4_114).toNatClampNeg (m_far_114 ((6 * x3_103) + x4_114).toNatClampNeg)))) else ck (inb ((6 * x3_103) + x4_114) 36) (f_X12_laysFar_L114 m_nodes x2_93 x3_103 n (x4_114 + 1) (upd m_far_114 ((6 * x3_103) + x4_114).toNatClampNeg ((m_far_114 ((6 * x3_103) + x2_93).toNatClampNeg) + (m_far_114 ((6 * x2_93) + x4_114).toNatClampNeg)))))))
def f_X12_laysFar_L103 (m_nodes : Int32) (N : Nat) (x2_93 : Int32) : Nat → Int32 → ar → Option (ar)
  | 0, _, _ => none
  | n + 1, x3_103, m_far_103 => if m_nodes ≤ x3_103 then some m_far_103 else Option.bind (f_X12_laysFar_L114 m_nodes x2_93 x3_103 N 0 m_far_103) fun s114 => f_X12_laysFar_L103 m_nodes N x2_93 n (x3_103 + 1) s114
def f_X12_laysFar_L93 (m_nodes : Int32) (N : Nat) : Nat → Int32 → ar → Option (ar)
  | 0, _, _ => none
  | n + 1, x2_93, m_far_93 => if m_nodes ≤ x2_93 then some m_far_93 else Option.bind (f_X12_laysFar_L103 m_nodes N x2_93 N 0 m_far_93) fun s103 => f_X12_laysFar_L93 m_nodes N n (x2_93 + 1) s103
def f_X12_laysFar (N : Nat) (m_nodes : Int32) (m_now : ar) (m_far : ar) (x1 : Int32) : Option (ar) := Option.bind (f_X12_laysFar_L2 m_nodes m_now x1 N N 0 m_far) fun s2 => Option.bind (f_X12_laysFar_L93 m_nodes N N 0 s2) fun s93 => some s93
abbrev rm_X12_laysFar : Room := { frames := 2, cells := 0, slots := 0, locals := 43 }
set_option maxRecDepth 100000 in
set_option maxHeartbeats 4000000 in
theorem k_X12_laysFar (l : Launch) (D : va_G) (cI cZ cK : ClassId) (N : Nat) (a0 a1 a2 a3 a4 a5 a6 a7 a8 a9 a10 a11 : Nat) (m_nodes : Int32) (m_every : Int32) (m_halves : Int32) (m_age : Int32) (m_life : Int32) (m_first : Int32) (m_undoMany : Int32) (m_undoAt : Int32) (m_letterMany : Int32) (m_readAt : Int32) (m_tokenAt : Int32) (m_token : Int32) (m_newNodes : Int32) (m_newEvery : Int32) (m_newHalves : Int32) (m_newAge : Int32) (m_newLife : Int32) (m_newFirst : Int32) (m_newLinks : Int32) (m_pathMany : Int32) (m_pathDelay : Int32) (m_seenMany : Int32) (m_now : ar) (m_far : ar) (x1 : Int32) (R : ar) (h : f_X12_laysFar N m_nodes m_now m_far x1 = some R) : Mu l D cI cZ cK yX12_laysFar cX12_laysFar 6 none rm_X12_laysFar [.ref a0, .int x1] [(a0, .inr (12, [.int m_nodes, .int m_every, .int m_halves, .int m_age, .int m_life, .int m_first, .ref a1, .int m_undoMany, .int m_undoAt, .ref a2, .ref a3, .ref a4, .int m_letterMany, .ref a5, .int m_readAt, .int m_tokenAt, .int m_token, .int m_newNodes, .int m_newEvery, .int m_newHalves, .int m_newAge, .int m_newLife, .int m_newFirst, .int m_newLinks, .ref a6, .int m_pathMany, .int m_pathDelay, .ref a7, .ref a8, .int m_seenMany, .ref a9, .ref a10, .ref a11])), (a1, .inl (cI, 622, .inl m_now)), (a8, .inl (cI, 36, .inl m_far))] none [(a0, .inr (12, [.int m_nodes, .int m_every, .int m_halves, .int m_age, .int m_life, .int m_first, .ref a1, .int m_undoMany, .int m_undoAt, .ref a2, .ref a3, .ref a4, .int m_letterMany, .ref a5, .int m_readAt, .int m_tokenAt, .int m_token, .int m_newNodes, .int m_newEvery, .int m_newHalves, .int m_newAge, .int m_newLife, .int m_newFirst, .int m_newLinks, .ref a6, .int m_pathMany, .int m_pathDelay, .ref a7, .ref a8, .int m_seenMany, .ref a9, .ref a10, .ref a11])), (a1, .inl (cI, 622, .inl m_now)), (a8, .inl (cI, 36, .inl R))] := by
  refine mv_of (by decide) (Nat.le_of_ble_eq_true rfl) ?_
  intro p e s m args below meth c Q A ls hx hb hml hown hk hA w hret hl
  have hl : lv_has ls 6 [(0, .ref a0), (1, .int x1)] := hl
  obtain ⟨C0, hC0, h⟩ := sat_top h
  unfold f_X12_laysFar at h
  refine lv_iconst (v := 0) hx hb dX12_laysFar_0 (by decide) ?_
  refine lv_istore_n (lv' := [(2, .int 0), (0, .ref a0), (1, .int x1)]) hx hb dX12_laysFar_1 rfl hl (by decide) rfl (fun ls hl => ?_)
  obtain ⟨T2, hT2, h⟩ := sat_reg h
  have E2 : ∀ (m_far_5 : ar) (H : Heap) (locs : List Loc) (ls : Array Slot), T2 m_far_5 → wd D A s.heap H locs [(a0, .inr (12, [.int m_nodes, .int m_every, .int m_halves, .int m_age, .int m_life, .int m_first, .ref a1, .int m_undoMany, .int m_undoAt, .ref a2, .ref a3, .ref a4, .int m_letterMany, .ref a5, .int m_readAt, .int m_tokenAt, .int m_token, .int m_newNodes, .int m_newEvery, .int m_newHalves, .int m_newAge, .int m_newLife, .int m_newFirst, .int m_newLinks, .ref a6, .int m_pathMany, .int m_pathDelay, .ref a7, .ref a8, .int m_seenMany, .ref a9, .ref a10, .ref a11])), (a1, .inl (cI, 622, .inl m_now)), (a8, .inl (cI, 36, .inl m_far_5))] → lv_has ls 6 [(0, .ref a0)] → W p l e rm_X12_laysFar s m args below meth c H locs 0 0 Q (F0 m 91 ls []) := by
    intro m_far_5 H locs ls h w hl
    have h := hT2 _ h
    refine lv_iconst (v := 0) hx hb dX12_laysFar_91 (by decide) ?_
    refine lv_istore_n (lv' := [(2, .int 0), (0, .ref a0)]) hx hb dX12_laysFar_92 rfl hl (by decide) rfl (fun ls hl => ?_)
    obtain ⟨T93, hT93, h⟩ := sat_reg h
    have E93 : ∀ (m_far_8 : ar) (H : Heap) (locs : List Loc) (ls : Array Slot), T93 m_far_8 → wd D A s.heap H locs [(a0, .inr (12, [.int m_nodes, .int m_every, .int m_halves, .int m_age, .int m_life, .int m_first, .ref a1, .int m_undoMany, .int m_undoAt, .ref a2, .ref a3, .ref a4, .int m_letterMany, .ref a5, .int m_readAt, .int m_tokenAt, .int m_token, .int m_newNodes, .int m_newEvery, .int m_newHalves, .int m_newAge, .int m_newLife, .int m_newFirst, .int m_newLinks, .ref a6, .int m_pathMany, .int m_pathDelay, .ref a7, .ref a8, .int m_seenMany, .ref a9, .ref a10, .ref a11])), (a1, .inl (cI, 622, .inl m_now)), (a8, .inl (cI, 36, .inl m_far_8))] → lv_has ls 6 [] → W p l e rm_X12_laysFar s m args below meth c H locs 0 0 Q (F0 m 213 ls []) := by
      intro m_far_8 H locs ls h w hl
      have h := hT93 _ h
      have hR := hC0 _ (sat_some h)
      subst hR
      exact hret _ _ _ _ w dX12_laysFar_213
    have L93 : ∀ (n : Nat) (x2_93 : Int32) (m_far_93 : ar) (H : Heap) (locs : List Loc) (ls : Array Slot), sat (f_X12_laysFar_L93 m_nodes N n x2_93 m_far_93) T93 → wd D A s.heap H locs [(a0, .inr (12, [.int m_nodes, .int m_every, .int m_halves, .int m_age, .int m_life, .int m_first, .ref a1, .int m_undoMany, .int m_undoAt, .ref a2, .ref a3, .ref a4, .int m_letterMany, .ref a5, .int m_readAt, .int m_tokenAt, .int m_token, .int m_newNodes, .int m_newEvery, .int m_newHalves, .int m_newAge, .int m_newLife, .int m_newFirst, .int m_newLinks, .ref a6, .int m_pathMany, .int m_pathDelay, .ref a7, .ref a8, .int m_seenMany, .ref a9, .ref a10, .ref a11])), (a1, .inl (cI, 622, .inl m_now)), (a8, .inl (cI, 36, .inl m_far_93))] → lv_has ls 6 [(0, .ref a0), (2, .int x2_93)] → W p l e rm_X12_laysFar s m args below meth c H locs 0 0 Q (F0 m 93 ls []) := by
      intro n
      induction n with
      | zero =>
        intro x2_93 m_far_93 H locs ls h
        rw [f_X12_laysFar_L93] at h
        exact (sat_none h).elim
      | succ n ih =>
        intro x2_93 m_far_93 H locs ls h w hl
        rw [f_X12_laysFar_L93] at h
        refine lv_iload_n hx hb dX12_laysFar_93 rfl (lv_at hl 1 rfl) ?_
        refine lv_aload_n hx hb dX12_laysFar_94 rfl (lv_at hl 0 rfl) ?_
        refine gf_X12_7 hx hb hown hk w.1 0 rfl rfl dX12_laysFar_95 ?_
        refine lv_icmp_ge (tgt := 213) hx hb dX12_laysFar_98 (by decide) (fun c98 => ?_) (fun c98 => ?_)
        · have h := sat_t c98 h
          exact E93 m_far_93 _ _ _ (sat_some h) w (lv_sub hl [] rfl)
        · have h := sat_f c98 h
          refine lv_iconst (v := 0) hx hb dX12_laysFar_101 (by decide) ?_
          refine lv_istore_n (lv' := [(3, .int 0), (0, .ref a0), (2, .int x2_93)]) hx hb dX12_laysFar_102 rfl hl (by decide) rfl (fun ls hl => ?_)
          obtain ⟨T103, hT103, h⟩ := sat_reg h
          have E103 : ∀ (m_far_7 : ar) (H : Heap) (locs : List Loc) (ls : Array Slot), T103 m_far_7 → wd D A s.heap H locs [(a0, .inr (12, [.int m_nodes, .int m_every, .int m_halves, .int m_age, .int m_life, .int m_first, .ref a1, .int m_undoMany, .int m_undoAt, .ref a2, .ref a3, .ref a4, .int m_letterMany, .ref a5, .int m_readAt, .int m_tokenAt, .int m_token, .int m_newNodes, .int m_newEvery, .int m_newHalves, .int m_newAge, .int m_newLife, .int m_newFirst, .int m_newLinks, .ref a6, .int m_pathMany, .int m_pathDelay, .ref a7, .ref a8, .int m_seenMany, .ref a9, .ref a10, .ref a11])), (a1, .inl (cI, 622, .inl m_now)), (a8, .inl (cI, 36, .inl m_far_7))] → lv_has ls 6 [(0, .ref a0), (2, .int x2_93)] → W p l e rm_X12_laysFar s m args below meth c H locs 0 0 Q (F0 m 207 ls []) := by
            intro m_far_7 H locs ls h w hl
            have h := hT103 _ h
            refine lv_iinc (v := x2_93 + 1) (lv' := [(2, .int (x2_93 + 1)), (0, .ref a0)]) hx hb dX12_laysFar_207 hl (k := 1) rfl (congrArg (fun z => x2_93 + z) (by decide)) (by decide) rfl (fun ls hl => ?_)
            refine lv_goto (tgt := 93) hx hb dX12_laysFar_210 (by decide) ?_
            exact ih (x2_93 + 1) m_far_7 _ _ _ h w (lv_sub hl [1, 0] rfl)
          have L103 : ∀ (n : Nat) (x3_103 : Int32) (m_far_103 : ar) (H : Heap) (locs : List Loc) (ls : Array Slot), sat (f_X12_laysFar_L103 m_nodes N x2_93 n x3_103 m_far_103) T103 → wd D A s.heap H locs [(a0, .inr (12, [.int m_nodes, .int m_every, .int m_halves, .int m_age, .int m_life, .int m_first, .ref a1, .int m_undoMany, .int m_undoAt, .ref a2, .ref a3, .ref a4, .int m_letterMany, .ref a5, .int m_readAt, .int m_tokenAt, .int m_token, .int m_newNodes, .int m_newEvery, .int m_newHalves, .int m_newAge, .int m_newLife, .int m_newFirst, .int m_newLinks, .ref a6, .int m_pathMany, .int m_pathDelay, .ref a7, .ref a8, .int m_seenMany, .ref a9, .ref a10, .ref a11])), (a1, .inl (cI, 622, .inl m_now)), (a8, .inl (cI, 36, .inl m_far_103))] → lv_has ls 6 [(0, .ref a0), (2, .int x2_93), (3, .int x3_103)] → W p l e rm_X12_laysFar s m args below meth c H locs 0 0 Q (F0 m 103 ls []) := by
            intro n
            induction n with
            | zero =>
              intro x3_103 m_far_103 H locs ls h
              rw [f_X12_laysFar_L103] at h
              exact (sat_none h).elim
            | succ n ih =>
              intro x3_103 m_far_103 H locs ls h w hl
              rw [f_X12_laysFar_L103] at h
              refine lv_iload_n hx hb dX12_laysFar_103 rfl (lv_at hl 2 rfl) ?_
              refine lv_aload_n hx hb dX12_laysFar_104 rfl (lv_at hl 0 rfl) ?_
              refine gf_X12_7 hx hb hown hk w.1 0 rfl rfl dX12_laysFar_105 ?_
              refine lv_icmp_ge (tgt := 207) hx hb dX12_laysFar_108 (by decide) (fun c108 => ?_) (fun c108 => ?_)
              · have h := sat_t c108 h
                exact E103 m_far_103 _ _ _ (sat_some h) w (lv_sub hl [0, 1] rfl)
              · have h := sat_f c108 h
                refine lv_iconst (v := 0) hx hb dX12_laysFar_111 (by decide) ?_
                refine lv_istore (lv' := [(4, .int 0), (0, .ref a0), (2, .int x2_93), (3, .int x3_103)]) hx hb dX12_laysFar_112 hl (by decide) rfl (fun ls hl => ?_)
                obtain ⟨T114, hT114, h⟩ := sat_reg h
                have E114 : ∀ (m_far_6 : ar) (H : Heap) (locs : List Loc) (ls : Array Slot), T114 m_far_6 → wd D A s.heap H locs [(a0, .inr (12, [.int m_nodes, .int m_every, .int m_halves, .int m_age, .int m_life, .int m_first, .ref a1, .int m_undoMany, .int m_undoAt, .ref a2, .ref a3, .ref a4, .int m_letterMany, .ref a5, .int m_readAt, .int m_tokenAt, .int m_token, .int m_newNodes, .int m_newEvery, .int m_newHalves, .int m_newAge, .int m_newLife, .int m_newFirst, .int m_newLinks, .ref a6, .int m_pathMany, .int m_pathDelay, .ref a7, .ref a8, .int m_seenMany, .ref a9, .ref a10, .ref a11])), (a1, .inl (cI, 622, .inl m_now)), (a8, .inl (cI, 36, .inl m_far_6))] → lv_has ls 6 [(0, .ref a0), (2, .int x2_93), (3, .int x3_103)] → W p l e rm_X12_laysFar s m args below meth c H locs 0 0 Q (F0 m 201 ls []) := by
                  intro m_far_6 H locs ls h w hl
                  have h := hT114 _ h
                  refine lv_iinc (v := x3_103 + 1) (lv' := [(3, .int (x3_103 + 1)), (0, .ref a0), (2, .int x2_93)]) hx hb dX12_laysFar_201 hl (k := 2) rfl (congrArg (fun z => x3_103 + z) (by decide)) (by decide) rfl (fun ls hl => ?_)
                  refine lv_goto (tgt := 103) hx hb dX12_laysFar_204 (by decide) ?_
                  exact ih (x3_103 + 1) m_far_6 _ _ _ h w (lv_sub hl [1, 2, 0] rfl)
                have L114 : ∀ (n : Nat) (x4_114 : Int32) (m_far_114 : ar) (H : Heap) (locs : List Loc) (ls : Array Slot), sat (f_X12_laysFar_L114 m_nodes x2_93 x3_103 n x4_114 m_far_114) T114 → wd D A s.heap H locs [(a0, .inr (12, [.int m_nodes, .int m_every, .int m_halves, .int m_age, .int m_life, .int m_first, .ref a1, .int m_undoMany, .int m_undoAt, .ref a2, .ref a3, .ref a4, .int m_letterMany, .ref a5, .int m_readAt, .int m_tokenAt, .int m_token, .int m_newNodes, .int m_newEvery, .int m_newHalves, .int m_newAge, .int m_newLife, .int m_newFirst, .int m_newLinks, .ref a6, .int m_pathMany, .int m_pathDelay, .ref a7, .ref a8, .int m_seenMany, .ref a9, .ref a10, .ref a11])), (a1, .inl (cI, 622, .inl m_now)), (a8, .inl (cI, 36, .inl m_far_114))] → lv_has ls 6 [(0, .ref a0), (2, .int x2_93), (3, .int x3_103), (4, .int x4_114)] → W p l e rm_X12_laysFar s m args below meth c H locs 0 0 Q (F0 m 114 ls []) := by
                  intro n
                  induction n with
                  | zero =>
                    intro x4_114 m_far_114 H locs ls h
                    rw [f_X12_laysFar_L114] at h
                    exact (sat_none h).elim
                  | succ n ih =>
                    intro x4_114 m_far_114 H locs ls h w hl
                    rw [f_X12_laysFar_L114] at h
                    refine lv_iload hx hb dX12_laysFar_114 (lv_at hl 3 rfl) ?_
                    refine lv_aload_n hx hb dX12_laysFar_116 rfl (lv_at hl 0 rfl) ?_
                    refine gf_X12_7 hx hb hown hk w.1 0 rfl rfl dX12_laysFar_117 ?_
                    refine lv_icmp_ge (tgt := 201) hx hb dX12_laysFar_120 (by decide) (fun c120 => ?_) (fun c120 => ?_)
                    · have h := sat_t c120 h
                      exact E114 m_far_114 _ _ _ (sat_some h) w (lv_sub hl [0, 1, 2] rfl)
                    · have h := sat_f c120 h
                      refine lv_aload_n hx hb dX12_laysFar_123 rfl (lv_at hl 0 rfl) ?_
                      refine gf_X12_42 hx hb hown hk w.1 0 rfl rfl dX12_laysFar_124 ?_
                      refine lv_bipush (v := 6) hx hb dX12_laysFar_127 (by decide) ?_
                      refine lv_iload_n hx hb dX12_laysFar_129 rfl (lv_at hl 2 rfl) ?_
                      refine lv_imul hx hb dX12_laysFar_130 ?_
                      refine lv_iload_n hx hb dX12_laysFar_131 rfl (lv_at hl 1 rfl) ?_
                      refine lv_iadd hx hb dX12_laysFar_132 ?_
                      obtain ⟨hi, h⟩ := sat_in h
                      refine va_iald hx hb hk.1 w.1 2 0 rfl rfl hi dX12_laysFar_133 ?_
                      refine lv_aload_n hx hb dX12_laysFar_134 rfl (lv_at hl 0 rfl) ?_
                      refine gf_X12_42 hx hb hown hk w.1 0 rfl rfl dX12_laysFar_135 ?_
                      refine lv_bipush (v := 6) hx hb dX12_laysFar_138 (by decide) ?_
                      refine lv_iload_n hx hb dX12_laysFar_140 rfl (lv_at hl 1 rfl) ?_
                      refine lv_imul hx hb dX12_laysFar_141 ?_
                      refine lv_iload hx hb dX12_laysFar_142 (lv_at hl 3 rfl) ?_
                      refine lv_iadd hx hb dX12_laysFar_144 ?_
                      obtain ⟨hi, h⟩ := sat_in h
                      refine va_iald hx hb hk.1 w.1 2 0 rfl rfl hi dX12_laysFar_145 ?_
                      refine lv_iadd hx hb dX12_laysFar_146 ?_
                      refine lv_istore (lv' := [(5, .int ((m_far_114 ((6 * x3_103) + x2_93).toNatClampNeg) + (m_far_114 ((6 * x2_93) + x4_114).toNatClampNeg))), (0, .ref a0), (2, .int x2_93), (3, .int x3_103), (4, .int x4_114)]) hx hb dX12_laysFar_147 hl (by decide) rfl (fun ls hl => ?_)
                      refine lv_aload_n hx hb dX12_laysFar_149 rfl (lv_at hl 1 rfl) ?_
                      refine gf_X12_42 hx hb hown hk w.1 0 rfl rfl dX12_laysFar_150 ?_
                      refine lv_bipush (v := 6) hx hb dX12_laysFar_153 (by decide) ?_
                      refine lv_iload_n hx hb dX12_laysFar_155 rfl (lv_at hl 3 rfl) ?_
                      refine lv_imul hx hb dX12_laysFar_156 ?_
                      refine lv_iload hx hb dX12_laysFar_157 (lv_at hl 4 rfl) ?_
                      refine lv_iadd hx hb dX12_laysFar_159 ?_
                      refine lv_iload hx hb dX12_laysFar_160 (lv_at hl 0 rfl) ?_
                      refine lv_aload_n hx hb dX12_laysFar_162 rfl (lv_at hl 1 rfl) ?_
                      refine gf_X12_42 hx hb hown hk w.1 0 rfl rfl dX12_laysFar_163 ?_
                      refine lv_bipush (v := 6) hx hb dX12_laysFar_166 (by decide) ?_
                      refine lv_iload_n hx hb dX12_laysFar_168 rfl (lv_at hl 3 rfl) ?_
                      refine lv_imul hx hb dX12_laysFar_169 ?_
                      refine lv_iload hx hb dX12_laysFar_170 (lv_at hl 4 rfl) ?_
                      refine lv_iadd hx hb dX12_laysFar_172 ?_
                      obtain ⟨hi, h⟩ := sat_in h
                      refine va_iald hx hb hk.1 w.1 2 0 rfl rfl hi dX12_laysFar_173 ?_
                      refine lv_icmp_ge (tgt := 182) hx hb dX12_laysFar_174 (by decide) (fun c174 => ?_) (fun c174 => ?_)
                      · have h := sat_t c174 h
                        refine lv_aload_n hx hb dX12_laysFar_182 rfl (lv_at hl 1 rfl) ?_
                        refine gf_X12_42 hx hb hown hk w.1 0 rfl rfl dX12_laysFar_183 ?_
                        refine lv_bipush (v := 6) hx hb dX12_laysFar_186 (by decide) ?_
                        refine lv_iload_n hx hb dX12_laysFar_188 rfl (lv_at hl 3 rfl) ?_
                        refine lv_imul hx hb dX12_laysFar_189 ?_
                        refine lv_iload hx hb dX12_laysFar_190 (lv_at hl 4 rfl) ?_
                        refine lv_iadd hx hb dX12_laysFar_192 ?_
                        obtain ⟨hi, h⟩ := sat_in h
                        refine va_iald hx hb hk.1 w.1 2 0 rfl rfl hi dX12_laysFar_193 ?_
                        obtain ⟨hi, h⟩ := sat_in h
                        refine ra_ist (ws' := [(a0, .inr (12, [.int m_nodes, .int m_every, .int m_halves, .int m_age, .int m_life, .int m_first, .ref a1, .int m_undoMany, .int m_undoAt, .ref a2, .ref a3, .ref a4, .int m_letterMany, .ref a5, .int m_readAt, .int m_tokenAt, .int m_token, .int m_newNodes, .int m_newEvery, .int m_newHalves, .int m_newAge, .int m_newLife, .int m_newFirst, .int m_newLinks, .ref a6, .int m_pathMany, .int m_pathDelay, .ref a7, .ref a8, .int m_seenMany, .ref a9, .ref a10, .ref a11])), (a1, .inl (cI, 622, .inl m_now)), (a8, .inl (cI, 36, .inl (upd m_far_114 ((6 * x3_103) + x4_114).toNatClampNeg (m_far_114 ((6 * x3_103) + x4_114).toNatClampNeg))))]) hx hb hk w 2 rfl hi rfl dX12_laysFar_194 (fun H locs w => ?_)
                        refine lv_iinc (v := x4_114 + 1) (lv' := [(4, .int (x4_114 + 1)), (5, .int ((m_far_114 ((6 * x3_103) + x2_93).toNatClampNeg) + (m_far_114 ((6 * x2_93) + x4_114).toNatClampNeg))), (0, .ref a0), (2, .int x2_93), (3, .int x3_103)]) hx hb dX12_laysFar_195 hl (k := 4) rfl (congrArg (fun z => x4_114 + z) (by decide)) (by decide) rfl (fun ls hl => ?_)
                        refine lv_goto (tgt := 114) hx hb dX12_laysFar_198 (by decide) ?_
                        exact ih (x4_114 + 1) (upd m_far_114 ((6 * x3_103) + x4_114).toNatClampNeg (m_far_114 ((6 * x3_103) + x4_114).toNatClampNeg)) _ _ _ h w (lv_sub hl [2, 3, 4, 0] rfl)
                      · have h := sat_f c174 h
                        refine lv_iload hx hb dX12_laysFar_177 (lv_at hl 0 rfl) ?_
                        refine lv_goto (tgt := 194) hx hb dX12_laysFar_179 (by decide) ?_
                        obtain ⟨hi, h⟩ := sat_in h
                        refine ra_ist (ws' := [(a0, .inr (12, [.int m_nodes, .int m_every, .int m_halves, .int m_age, .int m_life, .int m_first, .ref a1, .int m_undoMany, .int m_undoAt, .ref a2, .ref a3, .ref a4, .int m_letterMany, .ref a5, .int m_readAt, .int m_tokenAt, .int m_token, .int m_newNodes, .int m_newEvery, .int m_newHalves, .int m_newAge, .int m_newLife, .int m_newFirst, .int m_newLinks, .ref a6, .int m_pathMany, .int m_pathDelay, .ref a7, .ref a8, .int m_seenMany, .ref a9, .ref a10, .ref a11])), (a1, .inl (cI, 622, .inl m_now)), (a8, .inl (cI, 36, .inl (upd m_far_114 ((6 * x3_103) + x4_114).toNatClampNeg ((m_far_114 ((6 * x3_103) + x2_93).toNatClampNeg) + (m_far_114 ((6 * x2_93) + x4_114).toNatClampNeg)))))]) hx hb hk w 2 rfl hi rfl dX12_laysFar_194 (fun H locs w => ?_)
                        refine lv_iinc (v := x4_114 + 1) (lv' := [(4, .int (x4_114 + 1)), (5, .int ((m_far_114 ((6 * x3_103) + x2_93).toNatClampNeg) + (m_far_114 ((6 * x2_93) + x4_114).toNatClampNeg))), (0, .ref a0), (2, .int x2_93), (3, .int x3_103)]) hx hb dX12_laysFar_195 hl (k := 4) rfl (congrArg (fun z => x4_114 + z) (by decide)) (by decide) rfl (fun ls hl => ?_)
                        refine lv_goto (tgt := 114) hx hb dX12_laysFar_198 (by decide) ?_
                        exact ih (x4_114 + 1) (upd m_far_114 ((6 * x3_103) + x4_114).toNatClampNeg ((m_far_114 ((6 * x3_103) + x2_93).toNatClampNeg) + (m_far_114 ((6 * x2_93) + x4_114).toNatClampNeg))) _ _ _ h w (lv_sub hl [2, 3, 4, 0] rfl)
                exact L114 N 0 m_far_103 _ _ _ h w (lv_sub hl [1, 2, 3, 0] rfl)
          exact L103 N 0 m_far_93 _ _ _ h w (lv_sub hl [1, 2, 0] rfl)
    exact L93 N 0 m_far_5 _ _ _ h w (lv_sub hl [1, 0] rfl)
  have L2 : ∀ (n : Nat) (x2_2 : Int32) (m_far_2 : ar) (H : Heap) (locs : List Loc) (ls : Array Slot), sat (f_X12_laysFar_L2 m_nodes m_now x1 N n x2_2 m_far_2) T2 → wd D A s.heap H locs [(a0, .inr (12, [.int m_nodes, .int m_every, .int m_halves, .int m_age, .int m_life, .int m_first, .ref a1, .int m_undoMany, .int m_undoAt, .ref a2, .ref a3, .ref a4, .int m_letterMany, .ref a5, .int m_readAt, .int m_tokenAt, .int m_token, .int m_newNodes, .int m_newEvery, .int m_newHalves, .int m_newAge, .int m_newLife, .int m_newFirst, .int m_newLinks, .ref a6, .int m_pathMany, .int m_pathDelay, .ref a7, .ref a8, .int m_seenMany, .ref a9, .ref a10, .ref a11])), (a1, .inl (cI, 622, .inl m_now)), (a8, .inl (cI, 36, .inl m_far_2))] → lv_has ls 6 [(0, .ref a0), (1, .int x1), (2, .int x2_2)] → W p l e rm_X12_laysFar s m args below meth c H locs 0 0 Q (F0 m 2 ls []) := by
    intro n
    induction n with
    | zero =>
      intro x2_2 m_far_2 H locs ls h
      rw [f_X12_laysFar_L2] at h
      exact (sat_none h).elim
    | succ n ih =>
      intro x2_2 m_far_2 H locs ls h w hl
      rw [f_X12_laysFar_L2] at h
      refine lv_iload_n hx hb dX12_laysFar_2 rfl (lv_at hl 2 rfl) ?_
      refine lv_aload_n hx hb dX12_laysFar_3 rfl (lv_at hl 0 rfl) ?_
      refine gf_X12_7 hx hb hown hk w.1 0 rfl rfl dX12_laysFar_4 ?_
      refine lv_icmp_ge (tgt := 91) hx hb dX12_laysFar_7 (by decide) (fun c7 => ?_) (fun c7 => ?_)
      · have h := sat_t c7 h
        exact E2 m_far_2 _ _ _ (sat_some h) w (lv_sub hl [0] rfl)
      · have h := sat_f c7 h
        refine lv_iconst (v := 0) hx hb dX12_laysFar_10 (by decide) ?_
        refine lv_istore_n (lv' := [(3, .int 0), (0, .ref a0), (1, .int x1), (2, .int x2_2)]) hx hb dX12_laysFar_11 rfl hl (by decide) rfl (fun ls hl => ?_)
        obtain ⟨T12, hT12, h⟩ := sat_reg h
        have E12 : ∀ (m_far_4 : ar) (H : Heap) (locs : List Loc) (ls : Array Slot), T12 m_far_4 → wd D A s.heap H locs [(a0, .inr (12, [.int m_nodes, .int m_every, .int m_halves, .int m_age, .int m_life, .int m_first, .ref a1, .int m_undoMany, .int m_undoAt, .ref a2, .ref a3, .ref a4, .int m_letterMany, .ref a5, .int m_readAt, .int m_tokenAt, .int m_token, .int m_newNodes, .int m_newEvery, .int m_newHalves, .int m_newAge, .int m_newLife, .int m_newFirst, .int m_newLinks, .ref a6, .int m_pathMany, .int m_pathDelay, .ref a7, .ref a8, .int m_seenMany, .ref a9, .ref a10, .ref a11])), (a1, .inl (cI, 622, .inl m_now)), (a8, .inl (cI, 36, .inl m_far_4))] → lv_has ls 6 [(0, .ref a0), (1, .int x1), (2, .int x2_2)] → W p l e rm_X12_laysFar s m args below meth c H locs 0 0 Q (F0 m 85 ls []) := by
          intro m_far_4 H locs ls h w hl
          have h := hT12 _ h
          refine lv_iinc (v := x2_2 + 1) (lv' := [(2, .int (x2_2 + 1)), (0, .ref a0), (1, .int x1)]) hx hb dX12_laysFar_85 hl (k := 2) rfl (congrArg (fun z => x2_2 + z) (by decide)) (by decide) rfl (fun ls hl => ?_)
          refine lv_goto (tgt := 2) hx hb dX12_laysFar_88 (by decide) ?_
          exact ih (x2_2 + 1) m_far_4 _ _ _ h w (lv_sub hl [1, 2, 0] rfl)
        have L12 : ∀ (n : Nat) (x3_12 : Int32) (m_far_12 : ar) (H : Heap) (locs : List Loc) (ls : Array Slot), sat (f_X12_laysFar_L12 m_nodes m_now x1 x2_2 n x3_12 m_far_12) T12 → wd D A s.heap H locs [(a0, .inr (12, [.int m_nodes, .int m_every, .int m_halves, .int m_age, .int m_life, .int m_first, .ref a1, .int m_undoMany, .int m_undoAt, .ref a2, .ref a3, .ref a4, .int m_letterMany, .ref a5, .int m_readAt, .int m_tokenAt, .int m_token, .int m_newNodes, .int m_newEvery, .int m_newHalves, .int m_newAge, .int m_newLife, .int m_newFirst, .int m_newLinks, .ref a6, .int m_pathMany, .int m_pathDelay, .ref a7, .ref a8, .int m_seenMany, .ref a9, .ref a10, .ref a11])), (a1, .inl (cI, 622, .inl m_now)), (a8, .inl (cI, 36, .inl m_far_12))] → lv_has ls 6 [(0, .ref a0), (1, .int x1), (2, .int x2_2), (3, .int x3_12)] → W p l e rm_X12_laysFar s m args below meth c H locs 0 0 Q (F0 m 12 ls []) := by
          intro n
          induction n with
          | zero =>
            intro x3_12 m_far_12 H locs ls h
            rw [f_X12_laysFar_L12] at h
            exact (sat_none h).elim
          | succ n ih =>
            intro x3_12 m_far_12 H locs ls h w hl
            rw [f_X12_laysFar_L12] at h
            refine lv_iload_n hx hb dX12_laysFar_12 rfl (lv_at hl 3 rfl) ?_
            refine lv_aload_n hx hb dX12_laysFar_13 rfl (lv_at hl 0 rfl) ?_
            refine gf_X12_7 hx hb hown hk w.1 0 rfl rfl dX12_laysFar_14 ?_
            refine lv_icmp_ge (tgt := 85) hx hb dX12_laysFar_17 (by decide) (fun c17 => ?_) (fun c17 => ?_)
            · have h := sat_t c17 h
              exact E12 m_far_12 _ _ _ (sat_some h) w (lv_sub hl [0, 1, 2] rfl)
            · have h := sat_f c17 h
              refine lv_iload_n hx hb dX12_laysFar_20 rfl (lv_at hl 2 rfl) ?_
              refine lv_iload_n hx hb dX12_laysFar_21 rfl (lv_at hl 3 rfl) ?_
              obtain ⟨T22, hT22, h⟩ := sat_reg h
              have J22 : ∀ (j_1 : Int32) (H : Heap) (locs : List Loc) (ls : Array Slot), T22 j_1 → wd D A s.heap H locs [(a0, .inr (12, [.int m_nodes, .int m_every, .int m_halves, .int m_age, .int m_life, .int m_first, .ref a1, .int m_undoMany, .int m_undoAt, .ref a2, .ref a3, .ref a4, .int m_letterMany, .ref a5, .int m_readAt, .int m_tokenAt, .int m_token, .int m_newNodes, .int m_newEvery, .int m_newHalves, .int m_newAge, .int m_newLife, .int m_newFirst, .int m_newLinks, .ref a6, .int m_pathMany, .int m_pathDelay, .ref a7, .ref a8, .int m_seenMany, .ref a9, .ref a10, .ref a11])), (a1, .inl (cI, 622, .inl m_now)), (a8, .inl (cI, 36, .inl m_far_12))] → lv_has ls 6 [(0, .ref a0), (1, .int x1), (2, .int x2_2), (3, .int x3_12)] → W p l e rm_X12_laysFar s m args below meth c H locs 0 0 Q (F0 m 44 ls [.int j_1]) := by
                intro j_1 H locs ls h w hl
                have h := hT22 _ h
                refine lv_istore (lv' := [(4, .int j_1), (0, .ref a0), (1, .int x1), (2, .int x2_2), (3, .int x3_12)]) hx hb dX12_laysFar_44 hl (by decide) rfl (fun ls hl => ?_)
                refine lv_aload_n hx hb dX12_laysFar_46 rfl (lv_at hl 1 rfl) ?_
                refine gf_X12_42 hx hb hown hk w.1 0 rfl rfl dX12_laysFar_47 ?_
                refine lv_bipush (v := 6) hx hb dX12_laysFar_50 (by decide) ?_
                refine lv_iload_n hx hb dX12_laysFar_52 rfl (lv_at hl 3 rfl) ?_
                refine lv_imul hx hb dX12_laysFar_53 ?_
                refine lv_iload_n hx hb dX12_laysFar_54 rfl (lv_at hl 4 rfl) ?_
                refine lv_iadd hx hb dX12_laysFar_55 ?_
                refine lv_iload_n hx hb dX12_laysFar_56 rfl (lv_at hl 3 rfl) ?_
                refine lv_iload_n hx hb dX12_laysFar_57 rfl (lv_at hl 4 rfl) ?_
                refine lv_icmp_ne (tgt := 65) hx hb dX12_laysFar_58 (by decide) (fun c58 => ?_) (fun c58 => ?_)
                · have h := sat_f c58 h
                  refine lv_iload hx hb dX12_laysFar_65 (lv_at hl 0 rfl) ?_
                  refine lv_if_le (tgt := 75) hx hb dX12_laysFar_67 (by decide) (fun c67 => ?_) (fun c67 => ?_)
                  · have h := sat_t c67 h
                    refine lv_sipush (v := 1000) hx hb dX12_laysFar_75 (by decide) ?_
                    obtain ⟨hi, h⟩ := sat_in h
                    refine ra_ist (ws' := [(a0, .inr (12, [.int m_nodes, .int m_every, .int m_halves, .int m_age, .int m_life, .int m_first, .ref a1, .int m_undoMany, .int m_undoAt, .ref a2, .ref a3, .ref a4, .int m_letterMany, .ref a5, .int m_readAt, .int m_tokenAt, .int m_token, .int m_newNodes, .int m_newEvery, .int m_newHalves, .int m_newAge, .int m_newLife, .int m_newFirst, .int m_newLinks, .ref a6, .int m_pathMany, .int m_pathDelay, .ref a7, .ref a8, .int m_seenMany, .ref a9, .ref a10, .ref a11])), (a1, .inl (cI, 622, .inl m_now)), (a8, .inl (cI, 36, .inl (upd m_far_12 ((6 * x2_2) + x3_12).toNatClampNeg 1000)))]) hx hb hk w 2 rfl hi rfl dX12_laysFar_78 (fun H locs w => ?_)
                    refine lv_iinc (v := x3_12 + 1) (lv' := [(3, .int (x3_12 + 1)), (4, .int j_1), (0, .ref a0), (1, .int x1), (2, .int x2_2)]) hx hb dX12_laysFar_79 hl (k := 4) rfl (congrArg (fun z => x3_12 + z) (by decide)) (by decide) rfl (fun ls hl => ?_)
                    refine lv_goto (tgt := 12) hx hb dX12_laysFar_82 (by decide) ?_
                    exact ih (x3_12 + 1) (upd m_far_12 ((6 * x2_2) + x3_12).toNatClampNeg 1000) _ _ _ h w (lv_sub hl [2, 3, 4, 0] rfl)
                  · have h := sat_f c67 h
                    refine lv_iload hx hb dX12_laysFar_70 (lv_at hl 0 rfl) ?_
                    refine lv_goto (tgt := 78) hx hb dX12_laysFar_72 (by decide) ?_
                    obtain ⟨hi, h⟩ := sat_in h
                    refine ra_ist (ws' := [(a0, .inr (12, [.int m_nodes, .int m_every, .int m_halves, .int m_age, .int m_life, .int m_first, .ref a1, .int m_undoMany, .int m_undoAt, .ref a2, .ref a3, .ref a4, .int m_letterMany, .ref a5, .int m_readAt, .int m_tokenAt, .int m_token, .int m_newNodes, .int m_newEvery, .int m_newHalves, .int m_newAge, .int m_newLife, .int m_newFirst, .int m_newLinks, .ref a6, .int m_pathMany, .int m_pathDelay, .ref a7, .ref a8, .int m_seenMany, .ref a9, .ref a10, .ref a11])), (a1, .inl (cI, 622, .inl m_now)), (a8, .inl (cI, 36, .inl (upd m_far_12 ((6 * x2_2) + x3_12).toNatClampNeg j_1)))]) hx hb hk w 2 rfl hi rfl dX12_laysFar_78 (fun H locs w => ?_)
                    refine lv_iinc (v := x3_12 + 1) (lv' := [(3, .int (x3_12 + 1)), (4, .int j_1), (0, .ref a0), (1, .int x1), (2, .int x2_2)]) hx hb dX12_laysFar_79 hl (k := 4) rfl (congrArg (fun z => x3_12 + z) (by decide)) (by decide) rfl (fun ls hl => ?_)
                    refine lv_goto (tgt := 12) hx hb dX12_laysFar_82 (by decide) ?_
                    exact ih (x3_12 + 1) (upd m_far_12 ((6 * x2_2) + x3_12).toNatClampNeg j_1) _ _ _ h w (lv_sub hl [2, 3, 4, 0] rfl)
                · have h := sat_t c58 h
                  refine lv_iconst (v := 0) hx hb dX12_laysFar_61 (by decide) ?_
                  refine lv_goto (tgt := 78) hx hb dX12_laysFar_62 (by decide) ?_
                  obtain ⟨hi, h⟩ := sat_in h
                  refine ra_ist (ws' := [(a0, .inr (12, [.int m_nodes, .int m_every, .int m_halves, .int m_age, .int m_life, .int m_first, .ref a1, .int m_undoMany, .int m_undoAt, .ref a2, .ref a3, .ref a4, .int m_letterMany, .ref a5, .int m_readAt, .int m_tokenAt, .int m_token, .int m_newNodes, .int m_newEvery, .int m_newHalves, .int m_newAge, .int m_newLife, .int m_newFirst, .int m_newLinks, .ref a6, .int m_pathMany, .int m_pathDelay, .ref a7, .ref a8, .int m_seenMany, .ref a9, .ref a10, .ref a11])), (a1, .inl (cI, 622, .inl m_now)), (a8, .inl (cI, 36, .inl (upd m_far_12 ((6 * x2_2) + x3_12).toNatClampNeg 0)))]) hx hb hk w 2 rfl hi rfl dX12_laysFar_78 (fun H locs w => ?_)
                  refine lv_iinc (v := x3_12 + 1) (lv' := [(3, .int (x3_12 + 1)), (4, .int j_1), (0, .ref a0), (1, .int x1), (2, .int x2_2)]) hx hb dX12_laysFar_79 hl (k := 4) rfl (congrArg (fun z => x3_12 + z) (by decide)) (by decide) rfl (fun ls hl => ?_)
                  refine lv_goto (tgt := 12) hx hb dX12_laysFar_82 (by decide) ?_
                  exact ih (x3_12 + 1) (upd m_far_12 ((6 * x2_2) + x3_12).toNatClampNeg 0) _ _ _ h w (lv_sub hl [2, 3, 4, 0] rfl)
              refine lv_icmp_eq (tgt := 34) hx hb dX12_laysFar_22 (by decide) (fun c22 => ?_) (fun c22 => ?_)
              · have h := sat_t c22 h
                refine lv_iconst (v := 0) hx hb dX12_laysFar_34 (by decide) ?_
                refine lv_goto (tgt := 44) hx hb dX12_laysFar_35 (by decide) ?_
                exact J22 0 _ _ _ (sat_some h) w (lv_sub hl [0, 1, 2, 3] rfl)
              · have h := sat_f c22 h
                refine lv_iload_n hx hb dX12_laysFar_25 rfl (lv_at hl 2 rfl) ?_
                refine lv_iload_n hx hb dX12_laysFar_26 rfl (lv_at hl 3 rfl) ?_
                obtain ⟨r_2, e_2, h⟩ := sat_bind h
                refine cRS (rest := []) hx hb hml hown hk (k_X12_pair l D cI cZ cK x2_2 x3_12 r_2 e_2) (me_X12_pair hk.2.1) (ms_X12_pair hk.2.1) (ml_X12_62 hk.2.1) (w.1.sub [] rfl) hl.1 rfl rfl (Nat.le_of_ble_eq_true rfl) ⟨rfl, rfl, Nat.le_of_ble_eq_true rfl, Nat.le_of_ble_eq_true rfl, Nat.zero_le _, Nat.zero_le _⟩ dX12_laysFar_27 ?_
                refine lv_iload_n hx hb dX12_laysFar_30 rfl (lv_at hl 1 rfl) ?_
                refine lv_icmp_ne (tgt := 38) hx hb dX12_laysFar_31 (by decide) (fun c31 => ?_) (fun c31 => ?_)
                · have h := sat_f c31 h
                  refine lv_aload_n hx hb dX12_laysFar_38 rfl (lv_at hl 0 rfl) ?_
                  refine lv_iload_n hx hb dX12_laysFar_39 rfl (lv_at hl 2 rfl) ?_
                  refine lv_iload_n hx hb dX12_laysFar_40 rfl (lv_at hl 3 rfl) ?_
                  obtain ⟨r_3, e_3, h⟩ := sat_bind h
                  refine cRV (rest := []) hx hb hml hown hk (k_X12_delay l D cI cZ cK a0 a1 a2 a3 a4 a5 a6 a7 a8 a9 a10 a11 m_nodes m_every m_halves m_age m_life m_first m_undoMany m_undoAt m_letterMany m_readAt m_tokenAt m_token m_newNodes m_newEvery m_newHalves m_newAge m_newLife m_newFirst m_newLinks m_pathMany m_pathDelay m_seenMany m_now x2_2 x3_12 r_3 e_3) (me_X12_delay hk.2.1) (mi_X12_delay hk.2.1) (ml_X12_143 hk.2.1) (w.1.sub [0, 1] rfl) 0 rfl rfl rfl hl.1 rfl rfl (Nat.le_of_ble_eq_true rfl) ⟨rfl, rfl, Nat.le_of_ble_eq_true rfl, Nat.le_of_ble_eq_true rfl, Nat.zero_le _, Nat.zero_le _⟩ dX12_laysFar_41 ?_
                  exact J22 r_3 _ _ _ (sat_some h) w (lv_sub hl [0, 1, 2, 3] rfl)
                · have h := sat_t c31 h
                  refine lv_iconst (v := 0) hx hb dX12_laysFar_34 (by decide) ?_
                  refine lv_goto (tgt := 44) hx hb dX12_laysFar_35 (by decide) ?_
                  exact J22 0 _ _ _ (sat_some h) w (lv_sub hl [0, 1, 2, 3] rfl)
        exact L12 N 0 m_far_2 _ _ _ h w (lv_sub hl [1, 2, 3, 0] rfl)
  exact L2 N 0 m_far _ _ _ h w (lv_sub hl [1, 2, 0] rfl)
def f_X12_farOf (m_far : ar) (x1 : Int32) (x2 : Int32) : Option (Int32) := ck (inb ((6 * x1) + x2) 36) (if (m_far ((6 * x1) + x2).toNatClampNeg) < 1000 then some (m_far ((6 * x1) + x2).toNatClampNeg) else some (-9))
abbrev rm_X12_farOf : Room := { frames := 0, cells := 0, slots := 0, locals := 0 }
set_option maxRecDepth 100000 in
set_option maxHeartbeats 4000000 in
theorem k_X12_farOf (l : Launch) (D : va_G) (cI cZ cK : ClassId) (a0 a1 a2 a3 a4 a5 a6 a7 a8 a9 a10 a11 : Nat) (m_nodes : Int32) (m_every : Int32) (m_halves : Int32) (m_age : Int32) (m_life : Int32) (m_first : Int32) (m_undoMany : Int32) (m_undoAt : Int32) (m_letterMany : Int32) (m_readAt : Int32) (m_tokenAt : Int32) (m_token : Int32) (m_newNodes : Int32) (m_newEvery : Int32) (m_newHalves : Int32) (m_newAge : Int32) (m_newLife : Int32) (m_newFirst : Int32) (m_newLinks : Int32) (m_pathMany : Int32) (m_pathDelay : Int32) (m_seenMany : Int32) (m_far : ar) (x1 : Int32) (x2 : Int32) (R : Int32) (h : f_X12_farOf m_far x1 x2 = some R) : Rd l D cI cZ cK yX12_farOf cX12_farOf 4 (some .int) rm_X12_farOf [.ref a0, .int x1, .int x2] [(a0, .inr (12, [.int m_nodes, .int m_every, .int m_halves, .int m_age, .int m_life, .int m_first, .ref a1, .int m_undoMany, .int m_undoAt, .ref a2, .ref a3, .ref a4, .int m_letterMany, .ref a5, .int m_readAt, .int m_tokenAt, .int m_token, .int m_newNodes, .int m_newEvery, .int m_newHalves, .int m_newAge, .int m_newLife, .int m_newFirst, .int m_newLinks, .ref a6, .int m_pathMany, .int m_pathDelay, .ref a7, .ref a8, .int m_seenMany, .ref a9, .ref a10, .ref a11])), (a8, .inl (cI, 36, .inl m_far))] R := by
  refine rd_of (by decide) (vp_nar_int _) (Nat.le_of_ble_eq_true rfl) ?_
  intro p e s m args below meth c Q ls hx hb hml hown hk hP hret hl
  have hl : lv_has ls 4 [(0, .ref a0), (1, .int x1), (2, .int x2)] := hl
  obtain ⟨C0, hC0, h⟩ := sat_top h
  unfold f_X12_farOf at h
  refine lv_aload_n hx hb dX12_farOf_0 rfl (lv_at hl 0 rfl) ?_
  refine gf_X12_42 hx hb hown hk hP 0 rfl rfl dX12_farOf_1 ?_
  refine lv_bipush (v := 6) hx hb dX12_farOf_4 (by decide) ?_
  refine lv_iload_n hx hb dX12_farOf_6 rfl (lv_at hl 1 rfl) ?_
  refine lv_imul hx hb dX12_farOf_7 ?_
  refine lv_iload_n hx hb dX12_farOf_8 rfl (lv_at hl 2 rfl) ?_
  refine lv_iadd hx hb dX12_farOf_9 ?_
  obtain ⟨hi, h⟩ := sat_in h
  refine va_iald hx hb hk.1 hP 1 0 rfl rfl hi dX12_farOf_10 ?_
  refine lv_istore_n (lv' := [(3, .int (m_far ((6 * x1) + x2).toNatClampNeg)), (0, .ref a0), (1, .int x1), (2, .int x2)]) hx hb dX12_farOf_11 rfl hl (by decide) rfl (fun ls hl => ?_)
  refine lv_iload_n hx hb dX12_farOf_12 rfl (lv_at hl 0 rfl) ?_
  refine lv_sipush (v := 1000) hx hb dX12_farOf_13 (by decide) ?_
  refine lv_icmp_lt (tgt := 24) hx hb dX12_farOf_16 (by decide) (fun c16 => ?_) (fun c16 => ?_)
  · have h := sat_t c16 h
    refine lv_iload_n hx hb dX12_farOf_24 rfl (lv_at hl 0 rfl) ?_
    have hR := hC0 _ (sat_some h)
    subst hR
    exact hret _ _ dX12_farOf_25
  · have h := sat_f c16 h
    refine lv_bipush (v := (-9)) hx hb dX12_farOf_19 (by decide) ?_
    refine lv_goto (tgt := 25) hx hb dX12_farOf_21 (by decide) ?_
    have hR := hC0 _ (sat_some h)
    subst hR
    exact hret _ _ dX12_farOf_25
def f_X12_least (N : Nat) (m_nodes : Int32) (m_now : ar) (m_far : ar) (x1 : Int32) (x2 : Int32) : Option (Int32 × ar) := Option.bind (f_X12_isNode m_nodes x1) fun r_1 => if (b2i r_1) = 0 then some ((-1), m_far) else Option.bind (f_X12_isNode m_nodes x2) fun r_2 => if (b2i r_2) = 0 then some ((-1), m_far) else Option.bind (f_X12_laysFar N m_nodes m_now m_far (-9)) fun r_3 => Option.bind (f_X12_farOf r_3 x1 x2) fun r_4 => some (r_4, r_3)
abbrev rm_X12_least : Room := { frames := 3, cells := 0, slots := 0, locals := 68 }
set_option maxRecDepth 100000 in
set_option maxHeartbeats 4000000 in
theorem k_X12_least (l : Launch) (D : va_G) (cI cZ cK : ClassId) (N : Nat) (a0 a1 a2 a3 a4 a5 a6 a7 a8 a9 a10 a11 : Nat) (m_nodes : Int32) (m_every : Int32) (m_halves : Int32) (m_age : Int32) (m_life : Int32) (m_first : Int32) (m_undoMany : Int32) (m_undoAt : Int32) (m_letterMany : Int32) (m_readAt : Int32) (m_tokenAt : Int32) (m_token : Int32) (m_newNodes : Int32) (m_newEvery : Int32) (m_newHalves : Int32) (m_newAge : Int32) (m_newLife : Int32) (m_newFirst : Int32) (m_newLinks : Int32) (m_pathMany : Int32) (m_pathDelay : Int32) (m_seenMany : Int32) (m_now : ar) (m_far : ar) (x1 : Int32) (x2 : Int32) (R : Int32 × ar) (h : f_X12_least N m_nodes m_now m_far x1 x2 = some R) : Mu l D cI cZ cK yX12_least cX12_least 3 (some .int) rm_X12_least [.ref a0, .int x1, .int x2] [(a0, .inr (12, [.int m_nodes, .int m_every, .int m_halves, .int m_age, .int m_life, .int m_first, .ref a1, .int m_undoMany, .int m_undoAt, .ref a2, .ref a3, .ref a4, .int m_letterMany, .ref a5, .int m_readAt, .int m_tokenAt, .int m_token, .int m_newNodes, .int m_newEvery, .int m_newHalves, .int m_newAge, .int m_newLife, .int m_newFirst, .int m_newLinks, .ref a6, .int m_pathMany, .int m_pathDelay, .ref a7, .ref a8, .int m_seenMany, .ref a9, .ref a10, .ref a11])), (a1, .inl (cI, 622, .inl m_now)), (a8, .inl (cI, 36, .inl m_far))] (some (.int R.1)) [(a0, .inr (12, [.int m_nodes, .int m_every, .int m_halves, .int m_age, .int m_life, .int m_first, .ref a1, .int m_undoMany, .int m_undoAt, .ref a2, .ref a3, .ref a4, .int m_letterMany, .ref a5, .int m_readAt, .int m_tokenAt, .int m_token, .int m_newNodes, .int m_newEvery, .int m_newHalves, .int m_newAge, .int m_newLife, .int m_newFirst, .int m_newLinks, .ref a6, .int m_pathMany, .int m_pathDelay, .ref a7, .ref a8, .int m_seenMany, .ref a9, .ref a10, .ref a11])), (a1, .inl (cI, 622, .inl m_now)), (a8, .inl (cI, 36, .inl R.2))] := by
  refine mi_of (by decide) (vp_nar_int _) (Nat.le_of_ble_eq_true rfl) ?_
  intro p e s m args below meth c Q A ls hx hb hml hown hk hA w hret hl
  have hl : lv_has ls 3 [(0, .ref a0), (1, .int x1), (2, .int x2)] := hl
  obtain ⟨C0, hC0, h⟩ := sat_top h
  unfold f_X12_least at h
  refine lv_aload_n hx hb dX12_least_0 rfl (lv_at hl 0 rfl) ?_
  refine lv_iload_n hx hb dX12_least_1 rfl (lv_at hl 1 rfl) ?_
  obtain ⟨r_1, e_1, h⟩ := sat_bind h
  refine cRV (rest := []) hx hb hml hown hk (k_X12_isNode l D cI cZ cK a0 a1 a2 a3 a4 a5 a6 a7 a8 a9 a10 a11 m_nodes m_every m_halves m_age m_life m_first m_undoMany m_undoAt m_letterMany m_readAt m_tokenAt m_token m_newNodes m_newEvery m_newHalves m_newAge m_newLife m_newFirst m_newLinks m_pathMany m_pathDelay m_seenMany x1 r_1 e_1) (me_X12_isNode hk.2.1) (mi_X12_isNode hk.2.1) (ml_X12_162 hk.2.1) (w.1.sub [0] rfl) 0 rfl rfl rfl hl.1 rfl rfl (Nat.le_of_ble_eq_true rfl) ⟨rfl, rfl, Nat.le_of_ble_eq_true rfl, Nat.le_of_ble_eq_true rfl, Nat.zero_le _, Nat.zero_le _⟩ dX12_least_2 ?_
  refine lv_if_eq (tgt := 16) hx hb dX12_least_5 (by decide) (fun c5 => ?_) (fun c5 => ?_)
  · have h := sat_t c5 h
    refine lv_iconst (v := (-1)) hx hb dX12_least_16 (by decide) ?_
    have hR := hC0 _ (sat_some h)
    subst hR
    exact hret _ _ _ _ w dX12_least_17
  · have h := sat_f c5 h
    refine lv_aload_n hx hb dX12_least_8 rfl (lv_at hl 0 rfl) ?_
    refine lv_iload_n hx hb dX12_least_9 rfl (lv_at hl 2 rfl) ?_
    obtain ⟨r_2, e_2, h⟩ := sat_bind h
    refine cRV (rest := []) hx hb hml hown hk (k_X12_isNode l D cI cZ cK a0 a1 a2 a3 a4 a5 a6 a7 a8 a9 a10 a11 m_nodes m_every m_halves m_age m_life m_first m_undoMany m_undoAt m_letterMany m_readAt m_tokenAt m_token m_newNodes m_newEvery m_newHalves m_newAge m_newLife m_newFirst m_newLinks m_pathMany m_pathDelay m_seenMany x2 r_2 e_2) (me_X12_isNode hk.2.1) (mi_X12_isNode hk.2.1) (ml_X12_162 hk.2.1) (w.1.sub [0] rfl) 0 rfl rfl rfl hl.1 rfl rfl (Nat.le_of_ble_eq_true rfl) ⟨rfl, rfl, Nat.le_of_ble_eq_true rfl, Nat.le_of_ble_eq_true rfl, Nat.zero_le _, Nat.zero_le _⟩ dX12_least_10 ?_
    refine lv_if_ne (tgt := 18) hx hb dX12_least_13 (by decide) (fun c13 => ?_) (fun c13 => ?_)
    · have h := sat_f c13 h
      refine lv_aload_n hx hb dX12_least_18 rfl (lv_at hl 0 rfl) ?_
      refine lv_bipush (v := (-9)) hx hb dX12_least_19 (by decide) ?_
      obtain ⟨r_3, e_3, h⟩ := sat_bind h
      refine cMV (rest := []) (wr := []) (ws' := [(a0, .inr (12, [.int m_nodes, .int m_every, .int m_halves, .int m_age, .int m_life, .int m_first, .ref a1, .int m_undoMany, .int m_undoAt, .ref a2, .ref a3, .ref a4, .int m_letterMany, .ref a5, .int m_readAt, .int m_tokenAt, .int m_token, .int m_newNodes, .int m_newEvery, .int m_newHalves, .int m_newAge, .int m_newLife, .int m_newFirst, .int m_newLinks, .ref a6, .int m_pathMany, .int m_pathDelay, .ref a7, .ref a8, .int m_seenMany, .ref a9, .ref a10, .ref a11])), (a1, .inl (cI, 622, .inl m_now)), (a8, .inl (cI, 36, .inl r_3))]) hx hb hml hown hk w hA (k_X12_laysFar l D cI cZ cK N a0 a1 a2 a3 a4 a5 a6 a7 a8 a9 a10 a11 m_nodes m_every m_halves m_age m_life m_first m_undoMany m_undoAt m_letterMany m_readAt m_tokenAt m_token m_newNodes m_newEvery m_newHalves m_newAge m_newLife m_newFirst m_newLinks m_pathMany m_pathDelay m_seenMany m_now m_far (-9) r_3 e_3) (me_X12_laysFar hk.2.1) (mi_X12_laysFar hk.2.1) (ml_X12_194 hk.2.1) ((pmn 3 [0, 1, 2] rfl rfl (by decide))) ((pmn 3 [0, 1, 2] rfl rfl (by decide))) 0 rfl rfl rfl hl.1 rfl rfl (Nat.le_of_ble_eq_true rfl) ⟨rfl, rfl, Nat.le_of_ble_eq_true rfl, Nat.le_of_ble_eq_true rfl, Nat.zero_le _, Nat.zero_le _⟩ dX12_least_21 (fun H locs w => ?_)
      refine W.eq (g2 := F0 m 24 ls []) rfl ?_
      refine lv_aload_n hx hb dX12_least_24 rfl (lv_at hl 0 rfl) ?_
      refine lv_iload_n hx hb dX12_least_25 rfl (lv_at hl 1 rfl) ?_
      refine lv_iload_n hx hb dX12_least_26 rfl (lv_at hl 2 rfl) ?_
      obtain ⟨r_4, e_4, h⟩ := sat_bind h
      refine cRV (rest := []) hx hb hml hown hk (k_X12_farOf l D cI cZ cK a0 a1 a2 a3 a4 a5 a6 a7 a8 a9 a10 a11 m_nodes m_every m_halves m_age m_life m_first m_undoMany m_undoAt m_letterMany m_readAt m_tokenAt m_token m_newNodes m_newEvery m_newHalves m_newAge m_newLife m_newFirst m_newLinks m_pathMany m_pathDelay m_seenMany r_3 x1 x2 r_4 e_4) (me_X12_farOf hk.2.1) (mi_X12_farOf hk.2.1) (ml_X12_198 hk.2.1) (w.1.sub [0, 2] rfl) 0 rfl rfl rfl hl.1 rfl rfl (Nat.le_of_ble_eq_true rfl) ⟨rfl, rfl, Nat.le_of_ble_eq_true rfl, Nat.le_of_ble_eq_true rfl, Nat.zero_le _, Nat.zero_le _⟩ dX12_least_27 ?_
      have hR := hC0 _ (sat_some h)
      subst hR
      exact hret _ _ _ _ w dX12_least_30
    · have h := sat_t c13 h
      refine lv_iconst (v := (-1)) hx hb dX12_least_16 (by decide) ?_
      have hR := hC0 _ (sat_some h)
      subst hR
      exact hret _ _ _ _ w dX12_least_17
def f_X12_right_L20 (m_nodes : Int32) (m_age : Int32) (m_first : Int32) (m_now : ar) (N : Nat) (r_1 : ar) (x2_10 : Int32) : Nat → Int32 → Int32 → Int32 → Int32 → ar → Option (Int32 × Int32 × Int32 × ar)
  | 0, _, _, _, _, _ => none
  | n + 1, x1_20, x3_20, m_pathMany_20, m_pathDelay_20, m_path_20 => if m_nodes ≤ x3_20 then some (x1_20, m_pathMany_20, m_pathDelay_20, m_path_20) else if x2_10 = x3_20 then f_X12_right_L20 m_nodes m_age m_first m_now N r_1 x2_10 n (x1_20 + 0) (x3_20 + 1) m_pathMany_20 m_pathDelay_20 m_path_20 else Option.bind (f_X12_laysPath N m_nodes m_age m_first m_now m_path_20 x2_10 x3_20) fun r_2 => if (b2i r_2.1) = 0 then f_X12_right_L20 m_nodes m_age m_first m_now N r_1 x2_10 n (x1_20 + 0) (x3_20 + 1) r_2.2.1 r_2.2.2.1 r_2.2.2.2 else Option.bind (f_X12_farOf r_1 x2_10 x3_20) fun r_3 => if r_2.2.2.1 = r_3 then f_X12_right_L20 m_nodes m_age m_first m_now N r_1 x2_10 n (x1_20 + 1) (x3_20 + 1) r_2.2.1 r_2.2.2.1 r_2.2.2.2 else f_X12_right_L20 m_nodes m_age m_first m_now N r_1 x2_10 n (x1_20 + 0) (x3_20 + 1) r_2.2.1 r_2.2.2.1 r_2.2.2.2
def f_X12_right_L10 (m_nodes : Int32) (m_age : Int32) (m_first : Int32) (m_now : ar) (N : Nat) (r_1 : ar) : Nat → Int32 → Int32 → Int32 → Int32 → ar → Option (Int32 × Int32 × Int32 × ar)
  | 0, _, _, _, _, _ => none
  | n + 1, x1_10, x2_10, m_pathMany_10, m_pathDelay_10, m_path_10 => if m_nodes ≤ x2_10 then some (x1_10, m_pathMany_10, m_pathDelay_10, m_path_10) else Option.bind (f_X12_right_L20 m_nodes m_age m_first m_now N r_1 x2_10 N x1_10 0 m_pathMany_10 m_pathDelay_10 m_path_10) fun s20 => f_X12_right_L10 m_nodes m_age m_first m_now N r_1 n s20.1 (x2_10 + 1) s20.2.1 s20.2.2.1 s20.2.2.2
def f_X12_right (N : Nat) (m_nodes : Int32) (m_age : Int32) (m_first : Int32) (m_now : ar) (m_pathMany : Int32) (m_pathDelay : Int32) (m_path : ar) (m_far : ar) : Option (Int32 × Int32 × Int32 × ar × ar) := Option.bind (f_X12_laysFar N m_nodes m_now m_far (-9)) fun r_1 => Option.bind (f_X12_right_L10 m_nodes m_age m_first m_now N r_1 N 0 0 m_pathMany m_pathDelay m_path) fun s10 => some (s10.1, s10.2.1, s10.2.2.1, s10.2.2.2, r_1)
abbrev rm_X12_right : Room := { frames := 4, cells := 0, slots := 0, locals := 96 }
set_option maxRecDepth 100000 in
set_option maxHeartbeats 4000000 in
theorem k_X12_right (l : Launch) (D : va_G) (cI cZ cK : ClassId) (N : Nat) (a0 a1 a2 a3 a4 a5 a6 a7 a8 a9 a10 a11 : Nat) (m_nodes : Int32) (m_every : Int32) (m_halves : Int32) (m_age : Int32) (m_life : Int32) (m_first : Int32) (m_undoMany : Int32) (m_undoAt : Int32) (m_letterMany : Int32) (m_readAt : Int32) (m_tokenAt : Int32) (m_token : Int32) (m_newNodes : Int32) (m_newEvery : Int32) (m_newHalves : Int32) (m_newAge : Int32) (m_newLife : Int32) (m_newFirst : Int32) (m_newLinks : Int32) (m_pathMany : Int32) (m_pathDelay : Int32) (m_seenMany : Int32) (m_now : ar) (m_path : ar) (m_far : ar) (R : Int32 × Int32 × Int32 × ar × ar) (h : f_X12_right N m_nodes m_age m_first m_now m_pathMany m_pathDelay m_path m_far = some R) : Mu l D cI cZ cK yX12_right cX12_right 4 (some .int) rm_X12_right [.ref a0] [(a0, .inr (12, [.int m_nodes, .int m_every, .int m_halves, .int m_age, .int m_life, .int m_first, .ref a1, .int m_undoMany, .int m_undoAt, .ref a2, .ref a3, .ref a4, .int m_letterMany, .ref a5, .int m_readAt, .int m_tokenAt, .int m_token, .int m_newNodes, .int m_newEvery, .int m_newHalves, .int m_newAge, .int m_newLife, .int m_newFirst, .int m_newLinks, .ref a6, .int m_pathMany, .int m_pathDelay, .ref a7, .ref a8, .int m_seenMany, .ref a9, .ref a10, .ref a11])), (a1, .inl (cI, 622, .inl m_now)), (a7, .inl (cI, 6, .inl m_path)), (a8, .inl (cI, 36, .inl m_far))] (some (.int R.1)) [(a0, .inr (12, [.int m_nodes, .int m_every, .int m_halves, .int m_age, .int m_life, .int m_first, .ref a1, .int m_undoMany, .int m_undoAt, .ref a2, .ref a3, .ref a4, .int m_letterMany, .ref a5, .int m_readAt, .int m_tokenAt, .int m_token, .int m_newNodes, .int m_newEvery, .int m_newHalves, .int m_newAge, .int m_newLife, .int m_newFirst, .int m_newLinks, .ref a6, .int R.2.1, .int R.2.2.1, .ref a7, .ref a8, .int m_seenMany, .ref a9, .ref a10, .ref a11])), (a1, .inl (cI, 622, .inl m_now)), (a7, .inl (cI, 6, .inl R.2.2.2.1)), (a8, .inl (cI, 36, .inl R.2.2.2.2))] := by
  refine mi_of (by decide) (vp_nar_int _) (Nat.le_of_ble_eq_true rfl) ?_
  intro p e s m args below meth c Q A ls hx hb hml hown hk hA w hret hl
  have hl : lv_has ls 4 [(0, .ref a0)] := hl
  obtain ⟨C0, hC0, h⟩ := sat_top h
  unfold f_X12_right at h
  refine lv_aload_n hx hb dX12_right_0 rfl (lv_at hl 0 rfl) ?_
  refine lv_bipush (v := (-9)) hx hb dX12_right_1 (by decide) ?_
  obtain ⟨r_1, e_1, h⟩ := sat_bind h
  refine cMV (rest := []) (wr := [(a7, .inl (cI, 6, .inl m_path))]) (ws' := [(a0, .inr (12, [.int m_nodes, .int m_every, .int m_halves, .int m_age, .int m_life, .int m_first, .ref a1, .int m_undoMany, .int m_undoAt, .ref a2, .ref a3, .ref a4, .int m_letterMany, .ref a5, .int m_readAt, .int m_tokenAt, .int m_token, .int m_newNodes, .int m_newEvery, .int m_newHalves, .int m_newAge, .int m_newLife, .int m_newFirst, .int m_newLinks, .ref a6, .int m_pathMany, .int m_pathDelay, .ref a7, .ref a8, .int m_seenMany, .ref a9, .ref a10, .ref a11])), (a1, .inl (cI, 622, .inl m_now)), (a7, .inl (cI, 6, .inl m_path)), (a8, .inl (cI, 36, .inl r_1))]) hx hb hml hown hk w hA (k_X12_laysFar l D cI cZ cK N a0 a1 a2 a3 a4 a5 a6 a7 a8 a9 a10 a11 m_nodes m_every m_halves m_age m_life m_first m_undoMany m_undoAt m_letterMany m_readAt m_tokenAt m_token m_newNodes m_newEvery m_newHalves m_newAge m_newLife m_newFirst m_newLinks m_pathMany m_pathDelay m_seenMany m_now m_far (-9) r_1 e_1) (me_X12_laysFar hk.2.1) (mi_X12_laysFar hk.2.1) (ml_X12_194 hk.2.1) ((pmn 4 [0, 1, 3, 2] rfl rfl (by decide))) ((pmn 4 [0, 1, 3, 2] rfl rfl (by decide))) 0 rfl rfl rfl hl.1 rfl rfl (Nat.le_of_ble_eq_true rfl) ⟨rfl, rfl, Nat.le_of_ble_eq_true rfl, Nat.le_of_ble_eq_true rfl, Nat.zero_le _, Nat.zero_le _⟩ dX12_right_3 (fun H locs w => ?_)
  refine W.eq (g2 := F0 m 6 ls []) rfl ?_
  refine lv_iconst (v := 0) hx hb dX12_right_6 (by decide) ?_
  refine lv_istore_n (lv' := [(1, .int 0), (0, .ref a0)]) hx hb dX12_right_7 rfl hl (by decide) rfl (fun ls hl => ?_)
  refine lv_iconst (v := 0) hx hb dX12_right_8 (by decide) ?_
  refine lv_istore_n (lv' := [(2, .int 0), (1, .int 0), (0, .ref a0)]) hx hb dX12_right_9 rfl hl (by decide) rfl (fun ls hl => ?_)
  obtain ⟨T10, hT10, h⟩ := sat_reg h
  have E10 : ∀ (e1_8 : Int32) (m_pathMany_9 : Int32) (m_pathDelay_10 : Int32) (m_path_11 : ar) (H : Heap) (locs : List Loc) (ls : Array Slot), T10 (e1_8, m_pathMany_9, m_pathDelay_10, m_path_11) → wd D A s.heap H locs [(a0, .inr (12, [.int m_nodes, .int m_every, .int m_halves, .int m_age, .int m_life, .int m_first, .ref a1, .int m_undoMany, .int m_undoAt, .ref a2, .ref a3, .ref a4, .int m_letterMany, .ref a5, .int m_readAt, .int m_tokenAt, .int m_token, .int m_newNodes, .int m_newEvery, .int m_newHalves, .int m_newAge, .int m_newLife, .int m_newFirst, .int m_newLinks, .ref a6, .int m_pathMany_9, .int m_pathDelay_10, .ref a7, .ref a8, .int m_seenMany, .ref a9, .ref a10, .ref a11])), (a1, .inl (cI, 622, .inl m_now)), (a7, .inl (cI, 6, .inl m_path_11)), (a8, .inl (cI, 36, .inl r_1))] → lv_has ls 4 [(1, .int e1_8)] → W p l e rm_X12_right s m args below meth c H locs 0 0 Q (F0 m 75 ls []) := by
    intro e1_8 m_pathMany_9 m_pathDelay_10 m_path_11 H locs ls h w hl
    have h := hT10 _ h
    dsimp only at h
    refine lv_iload_n hx hb dX12_right_75 rfl (lv_at hl 0 rfl) ?_
    have hR := hC0 _ (sat_some h)
    subst hR
    exact hret _ _ _ _ w dX12_right_76
  have L10 : ∀ (n : Nat) (x1_10 : Int32) (x2_10 : Int32) (m_pathMany_10 : Int32) (m_pathDelay_10 : Int32) (m_path_10 : ar) (H : Heap) (locs : List Loc) (ls : Array Slot), sat (f_X12_right_L10 m_nodes m_age m_first m_now N r_1 n x1_10 x2_10 m_pathMany_10 m_pathDelay_10 m_path_10) T10 → wd D A s.heap H locs [(a0, .inr (12, [.int m_nodes, .int m_every, .int m_halves, .int m_age, .int m_life, .int m_first, .ref a1, .int m_undoMany, .int m_undoAt, .ref a2, .ref a3, .ref a4, .int m_letterMany, .ref a5, .int m_readAt, .int m_tokenAt, .int m_token, .int m_newNodes, .int m_newEvery, .int m_newHalves, .int m_newAge, .int m_newLife, .int m_newFirst, .int m_newLinks, .ref a6, .int m_pathMany_10, .int m_pathDelay_10, .ref a7, .ref a8, .int m_seenMany, .ref a9, .ref a10, .ref a11])), (a1, .inl (cI, 622, .inl m_now)), (a7, .inl (cI, 6, .inl m_path_10)), (a8, .inl (cI, 36, .inl r_1))] → lv_has ls 4 [(0, .ref a0), (1, .int x1_10), (2, .int x2_10)] → W p l e rm_X12_right s m args below meth c H locs 0 0 Q (F0 m 10 ls []) := by
    intro n
    induction n with
    | zero =>
      intro x1_10 x2_10 m_pathMany_10 m_pathDelay_10 m_path_10 H locs ls h
      rw [f_X12_right_L10] at h
      exact (sat_none h).elim
    | succ n ih =>
      intro x1_10 x2_10 m_pathMany_10 m_pathDelay_10 m_path_10 H locs ls h w hl
      rw [f_X12_right_L10] at h
      refine lv_iload_n hx hb dX12_right_10 rfl (lv_at hl 2 rfl) ?_
      refine lv_aload_n hx hb dX12_right_11 rfl (lv_at hl 0 rfl) ?_
      refine gf_X12_7 hx hb hown hk w.1 0 rfl rfl dX12_right_12 ?_
      refine lv_icmp_ge (tgt := 75) hx hb dX12_right_15 (by decide) (fun c15 => ?_) (fun c15 => ?_)
      · have h := sat_t c15 h
        exact E10 x1_10 m_pathMany_10 m_pathDelay_10 m_path_10 _ _ _ (sat_some h) w (lv_sub hl [1] rfl)
      · have h := sat_f c15 h
        refine lv_iconst (v := 0) hx hb dX12_right_18 (by decide) ?_
        refine lv_istore_n (lv' := [(3, .int 0), (0, .ref a0), (1, .int x1_10), (2, .int x2_10)]) hx hb dX12_right_19 rfl hl (by decide) rfl (fun ls hl => ?_)
        obtain ⟨T20, hT20, h⟩ := sat_reg h
        have E20 : ∀ (e1_4 : Int32) (m_pathMany_5 : Int32) (m_pathDelay_6 : Int32) (m_path_7 : ar) (H : Heap) (locs : List Loc) (ls : Array Slot), T20 (e1_4, m_pathMany_5, m_pathDelay_6, m_path_7) → wd D A s.heap H locs [(a0, .inr (12, [.int m_nodes, .int m_every, .int m_halves, .int m_age, .int m_life, .int m_first, .ref a1, .int m_undoMany, .int m_undoAt, .ref a2, .ref a3, .ref a4, .int m_letterMany, .ref a5, .int m_readAt, .int m_tokenAt, .int m_token, .int m_newNodes, .int m_newEvery, .int m_newHalves, .int m_newAge, .int m_newLife, .int m_newFirst, .int m_newLinks, .ref a6, .int m_pathMany_5, .int m_pathDelay_6, .ref a7, .ref a8, .int m_seenMany, .ref a9, .ref a10, .ref a11])), (a1, .inl (cI, 622, .inl m_now)), (a7, .inl (cI, 6, .inl m_path_7)), (a8, .inl (cI, 36, .inl r_1))] → lv_has ls 4 [(0, .ref a0), (1, .int e1_4), (2, .int x2_10)] → W p l e rm_X12_right s m args below meth c H locs 0 0 Q (F0 m 69 ls []) := by
          intro e1_4 m_pathMany_5 m_pathDelay_6 m_path_7 H locs ls h w hl
          have h := hT20 _ h
          dsimp only at h
          refine lv_iinc (v := x2_10 + 1) (lv' := [(2, .int (x2_10 + 1)), (0, .ref a0), (1, .int e1_4)]) hx hb dX12_right_69 hl (k := 2) rfl (congrArg (fun z => x2_10 + z) (by decide)) (by decide) rfl (fun ls hl => ?_)
          refine lv_goto (tgt := 10) hx hb dX12_right_72 (by decide) ?_
          exact ih e1_4 (x2_10 + 1) m_pathMany_5 m_pathDelay_6 m_path_7 _ _ _ h w (lv_sub hl [1, 2, 0] rfl)
        have L20 : ∀ (n : Nat) (x1_20 : Int32) (x3_20 : Int32) (m_pathMany_20 : Int32) (m_pathDelay_20 : Int32) (m_path_20 : ar) (H : Heap) (locs : List Loc) (ls : Array Slot), sat (f_X12_right_L20 m_nodes m_age m_first m_now N r_1 x2_10 n x1_20 x3_20 m_pathMany_20 m_pathDelay_20 m_path_20) T20 → wd D A s.heap H locs [(a0, .inr (12, [.int m_nodes, .int m_every, .int m_halves, .int m_age, .int m_life, .int m_first, .ref a1, .int m_undoMany, .int m_undoAt, .ref a2, .ref a3, .ref a4, .int m_letterMany, .ref a5, .int m_readAt, .int m_tokenAt, .int m_token, .int m_newNodes, .int m_newEvery, .int m_newHalves, .int m_newAge, .int m_newLife, .int m_newFirst, .int m_newLinks, .ref a6, .int m_pathMany_20, .int m_pathDelay_20, .ref a7, .ref a8, .int m_seenMany, .ref a9, .ref a10, .ref a11])), (a1, .inl (cI, 622, .inl m_now)), (a7, .inl (cI, 6, .inl m_path_20)), (a8, .inl (cI, 36, .inl r_1))] → lv_has ls 4 [(0, .ref a0), (1, .int x1_20), (2, .int x2_10), (3, .int x3_20)] → W p l e rm_X12_right s m args below meth c H locs 0 0 Q (F0 m 20 ls []) := by
          intro n
          induction n with
          | zero =>
            intro x1_20 x3_20 m_pathMany_20 m_pathDelay_20 m_path_20 H locs ls h
            rw [f_X12_right_L20] at h
            exact (sat_none h).elim
          | succ n ih =>
            intro x1_20 x3_20 m_pathMany_20 m_pathDelay_20 m_path_20 H locs ls h w hl
            rw [f_X12_right_L20] at h
            refine lv_iload_n hx hb dX12_right_20 rfl (lv_at hl 3 rfl) ?_
            refine lv_aload_n hx hb dX12_right_21 rfl (lv_at hl 0 rfl) ?_
            refine gf_X12_7 hx hb hown hk w.1 0 rfl rfl dX12_right_22 ?_
            refine lv_icmp_ge (tgt := 69) hx hb dX12_right_25 (by decide) (fun c25 => ?_) (fun c25 => ?_)
            · have h := sat_t c25 h
              exact E20 x1_20 m_pathMany_20 m_pathDelay_20 m_path_20 _ _ _ (sat_some h) w (lv_sub hl [0, 1, 2] rfl)
            · have h := sat_f c25 h
              refine lv_iload_n hx hb dX12_right_28 rfl (lv_at hl 1 rfl) ?_
              refine lv_iload_n hx hb dX12_right_29 rfl (lv_at hl 2 rfl) ?_
              refine lv_iload_n hx hb dX12_right_30 rfl (lv_at hl 3 rfl) ?_
              refine lv_icmp_eq (tgt := 60) hx hb dX12_right_31 (by decide) (fun c31 => ?_) (fun c31 => ?_)
              · have h := sat_t c31 h
                refine lv_iconst (v := 0) hx hb dX12_right_60 (by decide) ?_
                refine lv_iadd hx hb dX12_right_61 ?_
                refine lv_istore_n (lv' := [(1, .int (x1_20 + 0)), (0, .ref a0), (2, .int x2_10), (3, .int x3_20)]) hx hb dX12_right_62 rfl hl (by decide) rfl (fun ls hl => ?_)
                refine lv_iinc (v := x3_20 + 1) (lv' := [(3, .int (x3_20 + 1)), (1, .int (x1_20 + 0)), (0, .ref a0), (2, .int x2_10)]) hx hb dX12_right_63 hl (k := 3) rfl (congrArg (fun z => x3_20 + z) (by decide)) (by decide) rfl (fun ls hl => ?_)
                refine lv_goto (tgt := 20) hx hb dX12_right_66 (by decide) ?_
                exact ih (x1_20 + 0) (x3_20 + 1) m_pathMany_20 m_pathDelay_20 m_path_20 _ _ _ h w (lv_sub hl [2, 1, 3, 0] rfl)
              · have h := sat_f c31 h
                refine lv_aload_n hx hb dX12_right_34 rfl (lv_at hl 0 rfl) ?_
                refine lv_iload_n hx hb dX12_right_35 rfl (lv_at hl 2 rfl) ?_
                refine lv_iload_n hx hb dX12_right_36 rfl (lv_at hl 3 rfl) ?_
                obtain ⟨r_2, e_2, h⟩ := sat_bind h
                refine cMV (rest := [.int x1_20]) (wr := [(a8, .inl (cI, 36, .inl r_1))]) (ws' := [(a0, .inr (12, [.int m_nodes, .int m_every, .int m_halves, .int m_age, .int m_life, .int m_first, .ref a1, .int m_undoMany, .int m_undoAt, .ref a2, .ref a3, .ref a4, .int m_letterMany, .ref a5, .int m_readAt, .int m_tokenAt, .int m_token, .int m_newNodes, .int m_newEvery, .int m_newHalves, .int m_newAge, .int m_newLife, .int m_newFirst, .int m_newLinks, .ref a6, .int r_2.2.1, .int r_2.2.2.1, .ref a7, .ref a8, .int m_seenMany, .ref a9, .ref a10, .ref a11])), (a1, .inl (cI, 622, .inl m_now)), (a7, .inl (cI, 6, .inl r_2.2.2.2)), (a8, .inl (cI, 36, .inl r_1))]) hx hb hml hown hk w hA (k_X12_laysPath l D cI cZ cK N a0 a1 a2 a3 a4 a5 a6 a7 a8 a9 a10 a11 m_nodes m_every m_halves m_age m_life m_first m_undoMany m_undoAt m_letterMany m_readAt m_tokenAt m_token m_newNodes m_newEvery m_newHalves m_newAge m_newLife m_newFirst m_newLinks m_pathMany_20 m_pathDelay_20 m_seenMany m_now m_path_20 x2_10 x3_20 r_2 e_2) (me_X12_laysPath hk.2.1) (mi_X12_laysPath hk.2.1) (ml_X12_191 hk.2.1) ((pmn 4 [0, 1, 2, 3] rfl rfl (by decide))) ((pmn 4 [0, 1, 2, 3] rfl rfl (by decide))) 0 rfl rfl rfl hl.1 rfl rfl (Nat.le_of_ble_eq_true rfl) ⟨rfl, rfl, Nat.le_of_ble_eq_true rfl, Nat.le_of_ble_eq_true rfl, Nat.zero_le _, Nat.zero_le _⟩ dX12_right_37 (fun H locs w => ?_)
                refine W.eq (g2 := F0 m 40 ls [.int (b2i r_2.1), .int x1_20]) rfl ?_
                refine lv_if_eq (tgt := 60) hx hb dX12_right_40 (by decide) (fun c40 => ?_) (fun c40 => ?_)
                · have h := sat_t c40 h
                  refine lv_iconst (v := 0) hx hb dX12_right_60 (by decide) ?_
                  refine lv_iadd hx hb dX12_right_61 ?_
                  refine lv_istore_n (lv' := [(1, .int (x1_20 + 0)), (0, .ref a0), (2, .int x2_10), (3, .int x3_20)]) hx hb dX12_right_62 rfl hl (by decide) rfl (fun ls hl => ?_)
                  refine lv_iinc (v := x3_20 + 1) (lv' := [(3, .int (x3_20 + 1)), (1, .int (x1_20 + 0)), (0, .ref a0), (2, .int x2_10)]) hx hb dX12_right_63 hl (k := 3) rfl (congrArg (fun z => x3_20 + z) (by decide)) (by decide) rfl (fun ls hl => ?_)
                  refine lv_goto (tgt := 20) hx hb dX12_right_66 (by decide) ?_
                  exact ih (x1_20 + 0) (x3_20 + 1) r_2.2.1 r_2.2.2.1 r_2.2.2.2 _ _ _ h w (lv_sub hl [2, 1, 3, 0] rfl)
                · have h := sat_f c40 h
                  refine lv_aload_n hx hb dX12_right_43 rfl (lv_at hl 0 rfl) ?_
                  refine gf_X12_185 hx hb hown hk w.1 0 rfl rfl dX12_right_44 ?_
                  refine lv_aload_n hx hb dX12_right_47 rfl (lv_at hl 0 rfl) ?_
                  refine lv_iload_n hx hb dX12_right_48 rfl (lv_at hl 2 rfl) ?_
                  refine lv_iload_n hx hb dX12_right_49 rfl (lv_at hl 3 rfl) ?_
                  obtain ⟨r_3, e_3, h⟩ := sat_bind h
                  refine cRV (rest := [.int r_2.2.2.1, .int x1_20]) hx hb hml hown hk (k_X12_farOf l D cI cZ cK a0 a1 a2 a3 a4 a5 a6 a7 a8 a9 a10 a11 m_nodes m_every m_halves m_age m_life m_first m_undoMany m_undoAt m_letterMany m_readAt m_tokenAt m_token m_newNodes m_newEvery m_newHalves m_newAge m_newLife m_newFirst m_newLinks r_2.2.1 r_2.2.2.1 m_seenMany r_1 x2_10 x3_20 r_3 e_3) (me_X12_farOf hk.2.1) (mi_X12_farOf hk.2.1) (ml_X12_198 hk.2.1) (w.1.sub [0, 3] rfl) 0 rfl rfl rfl hl.1 rfl rfl (Nat.le_of_ble_eq_true rfl) ⟨rfl, rfl, Nat.le_of_ble_eq_true rfl, Nat.le_of_ble_eq_true rfl, Nat.zero_le _, Nat.zero_le _⟩ dX12_right_50 ?_
                  refine lv_icmp_ne (tgt := 60) hx hb dX12_right_53 (by decide) (fun c53 => ?_) (fun c53 => ?_)
                  · have h := sat_f c53 h
                    refine lv_iconst (v := 0) hx hb dX12_right_60 (by decide) ?_
                    refine lv_iadd hx hb dX12_right_61 ?_
                    refine lv_istore_n (lv' := [(1, .int (x1_20 + 0)), (0, .ref a0), (2, .int x2_10), (3, .int x3_20)]) hx hb dX12_right_62 rfl hl (by decide) rfl (fun ls hl => ?_)
                    refine lv_iinc (v := x3_20 + 1) (lv' := [(3, .int (x3_20 + 1)), (1, .int (x1_20 + 0)), (0, .ref a0), (2, .int x2_10)]) hx hb dX12_right_63 hl (k := 3) rfl (congrArg (fun z => x3_20 + z) (by decide)) (by decide) rfl (fun ls hl => ?_)
                    refine lv_goto (tgt := 20) hx hb dX12_right_66 (by decide) ?_
                    exact ih (x1_20 + 0) (x3_20 + 1) r_2.2.1 r_2.2.2.1 r_2.2.2.2 _ _ _ h w (lv_sub hl [2, 1, 3, 0] rfl)
                  · have h := sat_t c53 h
                    refine lv_iconst (v := 1) hx hb dX12_right_56 (by decide) ?_
                    refine lv_goto (tgt := 61) hx hb dX12_right_57 (by decide) ?_
                    refine lv_iadd hx hb dX12_right_61 ?_
                    refine lv_istore_n (lv' := [(1, .int (x1_20 + 1)), (0, .ref a0), (2, .int x2_10), (3, .int x3_20)]) hx hb dX12_right_62 rfl hl (by decide) rfl (fun ls hl => ?_)
                    refine lv_iinc (v := x3_20 + 1) (lv' := [(3, .int (x3_20 + 1)), (1, .int (x1_20 + 1)), (0, .ref a0), (2, .int x2_10)]) hx hb dX12_right_63 hl (k := 3) rfl (congrArg (fun z => x3_20 + z) (by decide)) (by decide) rfl (fun ls hl => ?_)
                    refine lv_goto (tgt := 20) hx hb dX12_right_66 (by decide) ?_
                    exact ih (x1_20 + 1) (x3_20 + 1) r_2.2.1 r_2.2.2.1 r_2.2.2.2 _ _ _ h w (lv_sub hl [2, 1, 3, 0] rfl)
        exact L20 N x1_10 0 m_pathMany_10 m_pathDelay_10 m_path_10 _ _ _ h w (lv_sub hl [1, 2, 3, 0] rfl)
  exact L10 N 0 0 m_pathMany m_pathDelay m_path _ _ _ h w (lv_sub hl [2, 1, 0] rfl)
def f_X12_hurtOf_L20 (m_nodes : Int32) (r_1 : ar) (x3_9 : Int32) : Nat → Int32 → Int32 → Option (Int32)
  | 0, _, _ => none
  | n + 1, x2_20, x4_20 => if m_nodes ≤ x4_20 then some x2_20 else Option.bind (f_X12_farOf r_1 x3_9 x4_20) fun r_2 => if r_2 = (-9) then f_X12_hurtOf_L20 m_nodes r_1 x3_9 n (x2_20 + 100) (x4_20 + 1) else f_X12_hurtOf_L20 m_nodes r_1 x3_9 n (x2_20 + r_2) (x4_20 + 1)
def f_X12_hurtOf_L9 (m_nodes : Int32) (N : Nat) (r_1 : ar) : Nat → Int32 → Int32 → Option (Int32)
  | 0, _, _ => none
  | n + 1, x2_9, x3_9 => if m_nodes ≤ x3_9 then some x2_9 else Option.bind (f_X12_hurtOf_L20 m_nodes r_1 x3_9 N x2_9 0) fun s20 => f_X12_hurtOf_L9 m_nodes N r_1 n s20 (x3_9 + 1)
def f_X12_hurtOf (N : Nat) (m_nodes : Int32) (m_now : ar) (m_far : ar) (x1 : Int32) : Option (Int32 × ar) := Option.bind (f_X12_laysFar N m_nodes m_now m_far x1) fun r_1 => Option.bind (f_X12_hurtOf_L9 m_nodes N r_1 N 0 0) fun s9 => some (s9, r_1)
abbrev rm_X12_hurtOf : Room := { frames := 3, cells := 0, slots := 0, locals := 68 }
set_option maxRecDepth 100000 in
set_option maxHeartbeats 4000000 in
theorem k_X12_hurtOf (l : Launch) (D : va_G) (cI cZ cK : ClassId) (N : Nat) (a0 a1 a2 a3 a4 a5 a6 a7 a8 a9 a10 a11 : Nat) (m_nodes : Int32) (m_every : Int32) (m_halves : Int32) (m_age : Int32) (m_life : Int32) (m_first : Int32) (m_undoMany : Int32) (m_undoAt : Int32) (m_letterMany : Int32) (m_readAt : Int32) (m_tokenAt : Int32) (m_token : Int32) (m_newNodes : Int32) (m_newEvery : Int32) (m_newHalves : Int32) (m_newAge : Int32) (m_newLife : Int32) (m_newFirst : Int32) (m_newLinks : Int32) (m_pathMany : Int32) (m_pathDelay : Int32) (m_seenMany : Int32) (m_now : ar) (m_far : ar) (x1 : Int32) (R : Int32 × ar) (h : f_X12_hurtOf N m_nodes m_now m_far x1 = some R) : Mu l D cI cZ cK yX12_hurtOf cX12_hurtOf 6 (some .int) rm_X12_hurtOf [.ref a0, .int x1] [(a0, .inr (12, [.int m_nodes, .int m_every, .int m_halves, .int m_age, .int m_life, .int m_first, .ref a1, .int m_undoMany, .int m_undoAt, .ref a2, .ref a3, .ref a4, .int m_letterMany, .ref a5, .int m_readAt, .int m_tokenAt, .int m_token, .int m_newNodes, .int m_newEvery, .int m_newHalves, .int m_newAge, .int m_newLife, .int m_newFirst, .int m_newLinks, .ref a6, .int m_pathMany, .int m_pathDelay, .ref a7, .ref a8, .int m_seenMany, .ref a9, .ref a10, .ref a11])), (a1, .inl (cI, 622, .inl m_now)), (a8, .inl (cI, 36, .inl m_far))] (some (.int R.1)) [(a0, .inr (12, [.int m_nodes, .int m_every, .int m_halves, .int m_age, .int m_life, .int m_first, .ref a1, .int m_undoMany, .int m_undoAt, .ref a2, .ref a3, .ref a4, .int m_letterMany, .ref a5, .int m_readAt, .int m_tokenAt, .int m_token, .int m_newNodes, .int m_newEvery, .int m_newHalves, .int m_newAge, .int m_newLife, .int m_newFirst, .int m_newLinks, .ref a6, .int m_pathMany, .int m_pathDelay, .ref a7, .ref a8, .int m_seenMany, .ref a9, .ref a10, .ref a11])), (a1, .inl (cI, 622, .inl m_now)), (a8, .inl (cI, 36, .inl R.2))] := by
  refine mi_of (by decide) (vp_nar_int _) (Nat.le_of_ble_eq_true rfl) ?_
  intro p e s m args below meth c Q A ls hx hb hml hown hk hA w hret hl
  have hl : lv_has ls 6 [(0, .ref a0), (1, .int x1)] := hl
  obtain ⟨C0, hC0, h⟩ := sat_top h
  unfold f_X12_hurtOf at h
  refine lv_aload_n hx hb dX12_hurtOf_0 rfl (lv_at hl 0 rfl) ?_
  refine lv_iload_n hx hb dX12_hurtOf_1 rfl (lv_at hl 1 rfl) ?_
  obtain ⟨r_1, e_1, h⟩ := sat_bind h
  refine cMV (rest := []) (wr := []) (ws' := [(a0, .inr (12, [.int m_nodes, .int m_every, .int m_halves, .int m_age, .int m_life, .int m_first, .ref a1, .int m_undoMany, .int m_undoAt, .ref a2, .ref a3, .ref a4, .int m_letterMany, .ref a5, .int m_readAt, .int m_tokenAt, .int m_token, .int m_newNodes, .int m_newEvery, .int m_newHalves, .int m_newAge, .int m_newLife, .int m_newFirst, .int m_newLinks, .ref a6, .int m_pathMany, .int m_pathDelay, .ref a7, .ref a8, .int m_seenMany, .ref a9, .ref a10, .ref a11])), (a1, .inl (cI, 622, .inl m_now)), (a8, .inl (cI, 36, .inl r_1))]) hx hb hml hown hk w hA (k_X12_laysFar l D cI cZ cK N a0 a1 a2 a3 a4 a5 a6 a7 a8 a9 a10 a11 m_nodes m_every m_halves m_age m_life m_first m_undoMany m_undoAt m_letterMany m_readAt m_tokenAt m_token m_newNodes m_newEvery m_newHalves m_newAge m_newLife m_newFirst m_newLinks m_pathMany m_pathDelay m_seenMany m_now m_far x1 r_1 e_1) (me_X12_laysFar hk.2.1) (mi_X12_laysFar hk.2.1) (ml_X12_194 hk.2.1) ((pmn 3 [0, 1, 2] rfl rfl (by decide))) ((pmn 3 [0, 1, 2] rfl rfl (by decide))) 0 rfl rfl rfl hl.1 rfl rfl (Nat.le_of_ble_eq_true rfl) ⟨rfl, rfl, Nat.le_of_ble_eq_true rfl, Nat.le_of_ble_eq_true rfl, Nat.zero_le _, Nat.zero_le _⟩ dX12_hurtOf_2 (fun H locs w => ?_)
  refine W.eq (g2 := F0 m 5 ls []) rfl ?_
  refine lv_iconst (v := 0) hx hb dX12_hurtOf_5 (by decide) ?_
  refine lv_istore_n (lv' := [(2, .int 0), (0, .ref a0), (1, .int x1)]) hx hb dX12_hurtOf_6 rfl hl (by decide) rfl (fun ls hl => ?_)
  refine lv_iconst (v := 0) hx hb dX12_hurtOf_7 (by decide) ?_
  refine lv_istore_n (lv' := [(3, .int 0), (2, .int 0), (0, .ref a0), (1, .int x1)]) hx hb dX12_hurtOf_8 rfl hl (by decide) rfl (fun ls hl => ?_)
  obtain ⟨T9, hT9, h⟩ := sat_reg h
  have E9 : ∀ (e2_4 : Int32) (H : Heap) (locs : List Loc) (ls : Array Slot), T9 e2_4 → wd D A s.heap H locs [(a0, .inr (12, [.int m_nodes, .int m_every, .int m_halves, .int m_age, .int m_life, .int m_first, .ref a1, .int m_undoMany, .int m_undoAt, .ref a2, .ref a3, .ref a4, .int m_letterMany, .ref a5, .int m_readAt, .int m_tokenAt, .int m_token, .int m_newNodes, .int m_newEvery, .int m_newHalves, .int m_newAge, .int m_newLife, .int m_newFirst, .int m_newLinks, .ref a6, .int m_pathMany, .int m_pathDelay, .ref a7, .ref a8, .int m_seenMany, .ref a9, .ref a10, .ref a11])), (a1, .inl (cI, 622, .inl m_now)), (a8, .inl (cI, 36, .inl r_1))] → lv_has ls 6 [(2, .int e2_4)] → W p l e rm_X12_hurtOf s m args below meth c H locs 0 0 Q (F0 m 67 ls []) := by
    intro e2_4 H locs ls h w hl
    have h := hT9 _ h
    refine lv_iload_n hx hb dX12_hurtOf_67 rfl (lv_at hl 0 rfl) ?_
    have hR := hC0 _ (sat_some h)
    subst hR
    exact hret _ _ _ _ w dX12_hurtOf_68
  have L9 : ∀ (n : Nat) (x2_9 : Int32) (x3_9 : Int32) (H : Heap) (locs : List Loc) (ls : Array Slot), sat (f_X12_hurtOf_L9 m_nodes N r_1 n x2_9 x3_9) T9 → wd D A s.heap H locs [(a0, .inr (12, [.int m_nodes, .int m_every, .int m_halves, .int m_age, .int m_life, .int m_first, .ref a1, .int m_undoMany, .int m_undoAt, .ref a2, .ref a3, .ref a4, .int m_letterMany, .ref a5, .int m_readAt, .int m_tokenAt, .int m_token, .int m_newNodes, .int m_newEvery, .int m_newHalves, .int m_newAge, .int m_newLife, .int m_newFirst, .int m_newLinks, .ref a6, .int m_pathMany, .int m_pathDelay, .ref a7, .ref a8, .int m_seenMany, .ref a9, .ref a10, .ref a11])), (a1, .inl (cI, 622, .inl m_now)), (a8, .inl (cI, 36, .inl r_1))] → lv_has ls 6 [(0, .ref a0), (2, .int x2_9), (3, .int x3_9)] → W p l e rm_X12_hurtOf s m args below meth c H locs 0 0 Q (F0 m 9 ls []) := by
    intro n
    induction n with
    | zero =>
      intro x2_9 x3_9 H locs ls h
      rw [f_X12_hurtOf_L9] at h
      exact (sat_none h).elim
    | succ n ih =>
      intro x2_9 x3_9 H locs ls h w hl
      rw [f_X12_hurtOf_L9] at h
      refine lv_iload_n hx hb dX12_hurtOf_9 rfl (lv_at hl 2 rfl) ?_
      refine lv_aload_n hx hb dX12_hurtOf_10 rfl (lv_at hl 0 rfl) ?_
      refine gf_X12_7 hx hb hown hk w.1 0 rfl rfl dX12_hurtOf_11 ?_
      refine lv_icmp_ge (tgt := 67) hx hb dX12_hurtOf_14 (by decide) (fun c14 => ?_) (fun c14 => ?_)
      · have h := sat_t c14 h
        exact E9 x2_9 _ _ _ (sat_some h) w (lv_sub hl [1] rfl)
      · have h := sat_f c14 h
        refine lv_iconst (v := 0) hx hb dX12_hurtOf_17 (by decide) ?_
        refine lv_istore (lv' := [(4, .int 0), (0, .ref a0), (2, .int x2_9), (3, .int x3_9)]) hx hb dX12_hurtOf_18 hl (by decide) rfl (fun ls hl => ?_)
        obtain ⟨T20, hT20, h⟩ := sat_reg h
        have E20 : ∀ (e2_3 : Int32) (H : Heap) (locs : List Loc) (ls : Array Slot), T20 e2_3 → wd D A s.heap H locs [(a0, .inr (12, [.int m_nodes, .int m_every, .int m_halves, .int m_age, .int m_life, .int m_first, .ref a1, .int m_undoMany, .int m_undoAt, .ref a2, .ref a3, .ref a4, .int m_letterMany, .ref a5, .int m_readAt, .int m_tokenAt, .int m_token, .int m_newNodes, .int m_newEvery, .int m_newHalves, .int m_newAge, .int m_newLife, .int m_newFirst, .int m_newLinks, .ref a6, .int m_pathMany, .int m_pathDelay, .ref a7, .ref a8, .int m_seenMany, .ref a9, .ref a10, .ref a11])), (a1, .inl (cI, 622, .inl m_now)), (a8, .inl (cI, 36, .inl r_1))] → lv_has ls 6 [(0, .ref a0), (2, .int e2_3), (3, .int x3_9)] → W p l e rm_X12_hurtOf s m args below meth c H locs 0 0 Q (F0 m 61 ls []) := by
          intro e2_3 H locs ls h w hl
          have h := hT20 _ h
          refine lv_iinc (v := x3_9 + 1) (lv' := [(3, .int (x3_9 + 1)), (0, .ref a0), (2, .int e2_3)]) hx hb dX12_hurtOf_61 hl (k := 2) rfl (congrArg (fun z => x3_9 + z) (by decide)) (by decide) rfl (fun ls hl => ?_)
          refine lv_goto (tgt := 9) hx hb dX12_hurtOf_64 (by decide) ?_
          exact ih e2_3 (x3_9 + 1) _ _ _ h w (lv_sub hl [1, 2, 0] rfl)
        have L20 : ∀ (n : Nat) (x2_20 : Int32) (x4_20 : Int32) (H : Heap) (locs : List Loc) (ls : Array Slot), sat (f_X12_hurtOf_L20 m_nodes r_1 x3_9 n x2_20 x4_20) T20 → wd D A s.heap H locs [(a0, .inr (12, [.int m_nodes, .int m_every, .int m_halves, .int m_age, .int m_life, .int m_first, .ref a1, .int m_undoMany, .int m_undoAt, .ref a2, .ref a3, .ref a4, .int m_letterMany, .ref a5, .int m_readAt, .int m_tokenAt, .int m_token, .int m_newNodes, .int m_newEvery, .int m_newHalves, .int m_newAge, .int m_newLife, .int m_newFirst, .int m_newLinks, .ref a6, .int m_pathMany, .int m_pathDelay, .ref a7, .ref a8, .int m_seenMany, .ref a9, .ref a10, .ref a11])), (a1, .inl (cI, 622, .inl m_now)), (a8, .inl (cI, 36, .inl r_1))] → lv_has ls 6 [(0, .ref a0), (2, .int x2_20), (3, .int x3_9), (4, .int x4_20)] → W p l e rm_X12_hurtOf s m args below meth c H locs 0 0 Q (F0 m 20 ls []) := by
          intro n
          induction n with
          | zero =>
            intro x2_20 x4_20 H locs ls h
            rw [f_X12_hurtOf_L20] at h
            exact (sat_none h).elim
          | succ n ih =>
            intro x2_20 x4_20 H locs ls h w hl
            rw [f_X12_hurtOf_L20] at h
            refine lv_iload hx hb dX12_hurtOf_20 (lv_at hl 3 rfl) ?_
            refine lv_aload_n hx hb dX12_hurtOf_22 rfl (lv_at hl 0 rfl) ?_
            refine gf_X12_7 hx hb hown hk w.1 0 rfl rfl dX12_hurtOf_23 ?_
            refine lv_icmp_ge (tgt := 61) hx hb dX12_hurtOf_26 (by decide) (fun c26 => ?_) (fun c26 => ?_)
            · have h := sat_t c26 h
              exact E20 x2_20 _ _ _ (sat_some h) w (lv_sub hl [0, 1, 2] rfl)
            · have h := sat_f c26 h
              refine lv_aload_n hx hb dX12_hurtOf_29 rfl (lv_at hl 0 rfl) ?_
              refine lv_iload_n hx hb dX12_hurtOf_30 rfl (lv_at hl 2 rfl) ?_
              refine lv_iload hx hb dX12_hurtOf_31 (lv_at hl 3 rfl) ?_
              obtain ⟨r_2, e_2, h⟩ := sat_bind h
              refine cRV (rest := []) hx hb hml hown hk (k_X12_farOf l D cI cZ cK a0 a1 a2 a3 a4 a5 a6 a7 a8 a9 a10 a11 m_nodes m_every m_halves m_age m_life m_first m_undoMany m_undoAt m_letterMany m_readAt m_tokenAt m_token m_newNodes m_newEvery m_newHalves m_newAge m_newLife m_newFirst m_newLinks m_pathMany m_pathDelay m_seenMany r_1 x3_9 x4_20 r_2 e_2) (me_X12_farOf hk.2.1) (mi_X12_farOf hk.2.1) (ml_X12_198 hk.2.1) (w.1.sub [0, 2] rfl) 0 rfl rfl rfl hl.1 rfl rfl (Nat.le_of_ble_eq_true rfl) ⟨rfl, rfl, Nat.le_of_ble_eq_true rfl, Nat.le_of_ble_eq_true rfl, Nat.zero_le _, Nat.zero_le _⟩ dX12_hurtOf_33 ?_
              refine lv_istore (lv' := [(5, .int r_2), (0, .ref a0), (2, .int x2_20), (3, .int x3_9), (4, .int x4_20)]) hx hb dX12_hurtOf_36 hl (by decide) rfl (fun ls hl => ?_)
              refine lv_iload_n hx hb dX12_hurtOf_38 rfl (lv_at hl 2 rfl) ?_
              refine lv_iload hx hb dX12_hurtOf_39 (lv_at hl 0 rfl) ?_
              refine lv_bipush (v := (-9)) hx hb dX12_hurtOf_41 (by decide) ?_
              refine lv_icmp_ne (tgt := 51) hx hb dX12_hurtOf_43 (by decide) (fun c43 => ?_) (fun c43 => ?_)
              · have h := sat_f c43 h
                refine lv_iload hx hb dX12_hurtOf_51 (lv_at hl 0 rfl) ?_
                refine lv_iadd hx hb dX12_hurtOf_53 ?_
                refine lv_istore_n (lv' := [(2, .int (x2_20 + r_2)), (5, .int r_2), (0, .ref a0), (3, .int x3_9), (4, .int x4_20)]) hx hb dX12_hurtOf_54 rfl hl (by decide) rfl (fun ls hl => ?_)
                refine lv_iinc (v := x4_20 + 1) (lv' := [(4, .int (x4_20 + 1)), (2, .int (x2_20 + r_2)), (5, .int r_2), (0, .ref a0), (3, .int x3_9)]) hx hb dX12_hurtOf_55 hl (k := 4) rfl (congrArg (fun z => x4_20 + z) (by decide)) (by decide) rfl (fun ls hl => ?_)
                refine lv_goto (tgt := 20) hx hb dX12_hurtOf_58 (by decide) ?_
                exact ih (x2_20 + r_2) (x4_20 + 1) _ _ _ h w (lv_sub hl [3, 1, 4, 0] rfl)
              · have h := sat_t c43 h
                refine lv_bipush (v := 100) hx hb dX12_hurtOf_46 (by decide) ?_
                refine lv_goto (tgt := 53) hx hb dX12_hurtOf_48 (by decide) ?_
                refine lv_iadd hx hb dX12_hurtOf_53 ?_
                refine lv_istore_n (lv' := [(2, .int (x2_20 + 100)), (5, .int r_2), (0, .ref a0), (3, .int x3_9), (4, .int x4_20)]) hx hb dX12_hurtOf_54 rfl hl (by decide) rfl (fun ls hl => ?_)
                refine lv_iinc (v := x4_20 + 1) (lv' := [(4, .int (x4_20 + 1)), (2, .int (x2_20 + 100)), (5, .int r_2), (0, .ref a0), (3, .int x3_9)]) hx hb dX12_hurtOf_55 hl (k := 4) rfl (congrArg (fun z => x4_20 + z) (by decide)) (by decide) rfl (fun ls hl => ?_)
                refine lv_goto (tgt := 20) hx hb dX12_hurtOf_58 (by decide) ?_
                exact ih (x2_20 + 100) (x4_20 + 1) _ _ _ h w (lv_sub hl [3, 1, 4, 0] rfl)
        exact L20 N x2_9 0 _ _ _ h w (lv_sub hl [1, 2, 3, 0] rfl)
  exact L9 N 0 0 _ _ _ h w (lv_sub hl [2, 1, 0] rfl)
def f_X12_hurt (N : Nat) (m_nodes : Int32) (m_now : ar) (m_far : ar) (x1 : Int32) : Option (Int32 × ar) := Option.bind (f_X12_pairOf N m_now x1) fun r_1 => if r_1 = (-9) then some ((-1), m_far) else Option.bind (f_X12_hurtOf N m_nodes m_now m_far r_1) fun r_2 => some (r_2.1, r_2.2)
abbrev rm_X12_hurt : Room := { frames := 4, cells := 0, slots := 0, locals := 93 }
set_option maxRecDepth 100000 in
set_option maxHeartbeats 4000000 in
theorem k_X12_hurt (l : Launch) (D : va_G) (cI cZ cK : ClassId) (N : Nat) (a0 a1 a2 a3 a4 a5 a6 a7 a8 a9 a10 a11 : Nat) (m_nodes : Int32) (m_every : Int32) (m_halves : Int32) (m_age : Int32) (m_life : Int32) (m_first : Int32) (m_undoMany : Int32) (m_undoAt : Int32) (m_letterMany : Int32) (m_readAt : Int32) (m_tokenAt : Int32) (m_token : Int32) (m_newNodes : Int32) (m_newEvery : Int32) (m_newHalves : Int32) (m_newAge : Int32) (m_newLife : Int32) (m_newFirst : Int32) (m_newLinks : Int32) (m_pathMany : Int32) (m_pathDelay : Int32) (m_seenMany : Int32) (m_now : ar) (m_far : ar) (x1 : Int32) (R : Int32 × ar) (h : f_X12_hurt N m_nodes m_now m_far x1 = some R) : Mu l D cI cZ cK yX12_hurt cX12_hurt 3 (some .int) rm_X12_hurt [.ref a0, .int x1] [(a0, .inr (12, [.int m_nodes, .int m_every, .int m_halves, .int m_age, .int m_life, .int m_first, .ref a1, .int m_undoMany, .int m_undoAt, .ref a2, .ref a3, .ref a4, .int m_letterMany, .ref a5, .int m_readAt, .int m_tokenAt, .int m_token, .int m_newNodes, .int m_newEvery, .int m_newHalves, .int m_newAge, .int m_newLife, .int m_newFirst, .int m_newLinks, .ref a6, .int m_pathMany, .int m_pathDelay, .ref a7, .ref a8, .int m_seenMany, .ref a9, .ref a10, .ref a11])), (a1, .inl (cI, 622, .inl m_now)), (a8, .inl (cI, 36, .inl m_far))] (some (.int R.1)) [(a0, .inr (12, [.int m_nodes, .int m_every, .int m_halves, .int m_age, .int m_life, .int m_first, .ref a1, .int m_undoMany, .int m_undoAt, .ref a2, .ref a3, .ref a4, .int m_letterMany, .ref a5, .int m_readAt, .int m_tokenAt, .int m_token, .int m_newNodes, .int m_newEvery, .int m_newHalves, .int m_newAge, .int m_newLife, .int m_newFirst, .int m_newLinks, .ref a6, .int m_pathMany, .int m_pathDelay, .ref a7, .ref a8, .int m_seenMany, .ref a9, .ref a10, .ref a11])), (a1, .inl (cI, 622, .inl m_now)), (a8, .inl (cI, 36, .inl R.2))] := by
  refine mi_of (by decide) (vp_nar_int _) (Nat.le_of_ble_eq_true rfl) ?_
  intro p e s m args below meth c Q A ls hx hb hml hown hk hA w hret hl
  have hl : lv_has ls 3 [(0, .ref a0), (1, .int x1)] := hl
  obtain ⟨C0, hC0, h⟩ := sat_top h
  unfold f_X12_hurt at h
  refine lv_aload_n hx hb dX12_hurt_0 rfl (lv_at hl 0 rfl) ?_
  refine lv_iload_n hx hb dX12_hurt_1 rfl (lv_at hl 1 rfl) ?_
  obtain ⟨r_1, e_1, h⟩ := sat_bind h
  refine cRV (rest := []) hx hb hml hown hk (k_X12_pairOf l D cI cZ cK N a0 a1 a2 a3 a4 a5 a6 a7 a8 a9 a10 a11 m_nodes m_every m_halves m_age m_life m_first m_undoMany m_undoAt m_letterMany m_readAt m_tokenAt m_token m_newNodes m_newEvery m_newHalves m_newAge m_newLife m_newFirst m_newLinks m_pathMany m_pathDelay m_seenMany m_now x1 r_1 e_1) (me_X12_pairOf hk.2.1) (mi_X12_pairOf hk.2.1) (ml_X12_135 hk.2.1) (w.1.sub [0, 1] rfl) 0 rfl rfl rfl hl.1 rfl rfl (Nat.le_of_ble_eq_true rfl) ⟨rfl, rfl, Nat.le_of_ble_eq_true rfl, Nat.le_of_ble_eq_true rfl, Nat.zero_le _, Nat.zero_le _⟩ dX12_hurt_2 ?_
  refine lv_istore_n (lv' := [(2, .int r_1), (0, .ref a0), (1, .int x1)]) hx hb dX12_hurt_5 rfl hl (by decide) rfl (fun ls hl => ?_)
  refine lv_iload_n hx hb dX12_hurt_6 rfl (lv_at hl 0 rfl) ?_
  refine lv_bipush (v := (-9)) hx hb dX12_hurt_7 (by decide) ?_
  refine lv_icmp_ne (tgt := 16) hx hb dX12_hurt_9 (by decide) (fun c9 => ?_) (fun c9 => ?_)
  · have h := sat_f c9 h
    refine lv_aload_n hx hb dX12_hurt_16 rfl (lv_at hl 1 rfl) ?_
    refine lv_iload_n hx hb dX12_hurt_17 rfl (lv_at hl 0 rfl) ?_
    obtain ⟨r_2, e_2, h⟩ := sat_bind h
    refine cMV (rest := []) (wr := []) (ws' := [(a0, .inr (12, [.int m_nodes, .int m_every, .int m_halves, .int m_age, .int m_life, .int m_first, .ref a1, .int m_undoMany, .int m_undoAt, .ref a2, .ref a3, .ref a4, .int m_letterMany, .ref a5, .int m_readAt, .int m_tokenAt, .int m_token, .int m_newNodes, .int m_newEvery, .int m_newHalves, .int m_newAge, .int m_newLife, .int m_newFirst, .int m_newLinks, .ref a6, .int m_pathMany, .int m_pathDelay, .ref a7, .ref a8, .int m_seenMany, .ref a9, .ref a10, .ref a11])), (a1, .inl (cI, 622, .inl m_now)), (a8, .inl (cI, 36, .inl r_2.2))]) hx hb hml hown hk w hA (k_X12_hurtOf l D cI cZ cK N a0 a1 a2 a3 a4 a5 a6 a7 a8 a9 a10 a11 m_nodes m_every m_halves m_age m_life m_first m_undoMany m_undoAt m_letterMany m_readAt m_tokenAt m_token m_newNodes m_newEvery m_newHalves m_newAge m_newLife m_newFirst m_newLinks m_pathMany m_pathDelay m_seenMany m_now m_far r_1 r_2 e_2) (me_X12_hurtOf hk.2.1) (mi_X12_hurtOf hk.2.1) (ml_X12_201 hk.2.1) ((pmn 3 [0, 1, 2] rfl rfl (by decide))) ((pmn 3 [0, 1, 2] rfl rfl (by decide))) 0 rfl rfl rfl hl.1 rfl rfl (Nat.le_of_ble_eq_true rfl) ⟨rfl, rfl, Nat.le_of_ble_eq_true rfl, Nat.le_of_ble_eq_true rfl, Nat.zero_le _, Nat.zero_le _⟩ dX12_hurt_18 (fun H locs w => ?_)
    refine W.eq (g2 := F0 m 21 ls [.int r_2.1]) rfl ?_
    have hR := hC0 _ (sat_some h)
    subst hR
    exact hret _ _ _ _ w dX12_hurt_21
  · have h := sat_t c9 h
    refine lv_iconst (v := (-1)) hx hb dX12_hurt_12 (by decide) ?_
    refine lv_goto (tgt := 21) hx hb dX12_hurt_13 (by decide) ?_
    have hR := hC0 _ (sat_some h)
    subst hR
    exact hret _ _ _ _ w dX12_hurt_21
def f_X12_worst_L13 (m_nodes : Int32) (m_now : ar) (N : Nat) (r_1 : Int32) : Nat → Int32 → Int32 → Int32 → ar → Option (Int32 × ar)
  | 0, _, _, _, _ => none
  | n + 1, x1_13, x2_13, x4_13, m_far_13 => if r_1 ≤ x4_13 then some (x1_13, m_far_13) else Option.bind (f_X12_pairOf N m_now x4_13) fun r_2 => Option.bind (f_X12_hurtOf N m_nodes m_now m_far_13 r_2) fun r_3 => Option.bind (α := Int32) (if r_3.1 ≤ x2_13 then some x1_13 else some x4_13) fun j34 => if r_3.1 ≤ x2_13 then f_X12_worst_L13 m_nodes m_now N r_1 n j34 x2_13 (x4_13 + 1) r_3.2 else f_X12_worst_L13 m_nodes m_now N r_1 n j34 r_3.1 (x4_13 + 1) r_3.2
def f_X12_worst (N : Nat) (m_nodes : Int32) (m_now : ar) (m_far : ar) : Option (Int32 × ar) := Option.bind (f_X12_linkMany N m_now) fun r_1 => Option.bind (f_X12_worst_L13 m_nodes m_now N r_1 N (-9) (-1) 0 m_far) fun s13 => some (s13.1, s13.2)
abbrev rm_X12_worst : Room := { frames := 4, cells := 0, slots := 0, locals := 93 }
set_option maxRecDepth 100000 in
set_option maxHeartbeats 4000000 in
theorem k_X12_worst (l : Launch) (D : va_G) (cI cZ cK : ClassId) (N : Nat) (a0 a1 a2 a3 a4 a5 a6 a7 a8 a9 a10 a11 : Nat) (m_nodes : Int32) (m_every : Int32) (m_halves : Int32) (m_age : Int32) (m_life : Int32) (m_first : Int32) (m_undoMany : Int32) (m_undoAt : Int32) (m_letterMany : Int32) (m_readAt : Int32) (m_tokenAt : Int32) (m_token : Int32) (m_newNodes : Int32) (m_newEvery : Int32) (m_newHalves : Int32) (m_newAge : Int32) (m_newLife : Int32) (m_newFirst : Int32) (m_newLinks : Int32) (m_pathMany : Int32) (m_pathDelay : Int32) (m_seenMany : Int32) (m_now : ar) (m_far : ar) (R : Int32 × ar) (h : f_X12_worst N m_nodes m_now m_far = some R) : Mu l D cI cZ cK yX12_worst cX12_worst 6 (some .int) rm_X12_worst [.ref a0] [(a0, .inr (12, [.int m_nodes, .int m_every, .int m_halves, .int m_age, .int m_life, .int m_first, .ref a1, .int m_undoMany, .int m_undoAt, .ref a2, .ref a3, .ref a4, .int m_letterMany, .ref a5, .int m_readAt, .int m_tokenAt, .int m_token, .int m_newNodes, .int m_newEvery, .int m_newHalves, .int m_newAge, .int m_newLife, .int m_newFirst, .int m_newLinks, .ref a6, .int m_pathMany, .int m_pathDelay, .ref a7, .ref a8, .int m_seenMany, .ref a9, .ref a10, .ref a11])), (a1, .inl (cI, 622, .inl m_now)), (a8, .inl (cI, 36, .inl m_far))] (some (.int R.1)) [(a0, .inr (12, [.int m_nodes, .int m_every, .int m_halves, .int m_age, .int m_life, .int m_first, .ref a1, .int m_undoMany, .int m_undoAt, .ref a2, .ref a3, .ref a4, .int m_letterMany, .ref a5, .int m_readAt, .int m_tokenAt, .int m_token, .int m_newNodes, .int m_newEvery, .int m_newHalves, .int m_newAge, .int m_newLife, .int m_newFirst, .int m_newLinks, .ref a6, .int m_pathMany, .int m_pathDelay, .ref a7, .ref a8, .int m_seenMany, .ref a9, .ref a10, .ref a11])), (a1, .inl (cI, 622, .inl m_now)), (a8, .inl (cI, 36, .inl R.2))] := by
  refine mi_of (by decide) (vp_nar_int _) (Nat.le_of_ble_eq_true rfl) ?_
  intro p e s m args below meth c Q A ls hx hb hml hown hk hA w hret hl
  have hl : lv_has ls 6 [(0, .ref a0)] := hl
  obtain ⟨C0, hC0, h⟩ := sat_top h
  unfold f_X12_worst at h
  refine lv_bipush (v := (-9)) hx hb dX12_worst_0 (by decide) ?_
  refine lv_istore_n (lv' := [(1, .int (-9)), (0, .ref a0)]) hx hb dX12_worst_2 rfl hl (by decide) rfl (fun ls hl => ?_)
  refine lv_iconst (v := (-1)) hx hb dX12_worst_3 (by decide) ?_
  refine lv_istore_n (lv' := [(2, .int (-1)), (1, .int (-9)), (0, .ref a0)]) hx hb dX12_worst_4 rfl hl (by decide) rfl (fun ls hl => ?_)
  refine lv_aload_n hx hb dX12_worst_5 rfl (lv_at hl 2 rfl) ?_
  obtain ⟨r_1, e_1, h⟩ := sat_bind h
  refine cRV (rest := []) hx hb hml hown hk (k_X12_linkMany l D cI cZ cK N a0 a1 a2 a3 a4 a5 a6 a7 a8 a9 a10 a11 m_nodes m_every m_halves m_age m_life m_first m_undoMany m_undoAt m_letterMany m_readAt m_tokenAt m_token m_newNodes m_newEvery m_newHalves m_newAge m_newLife m_newFirst m_newLinks m_pathMany m_pathDelay m_seenMany m_now r_1 e_1) (me_X12_linkMany hk.2.1) (mi_X12_linkMany hk.2.1) (ml_X12_175 hk.2.1) (w.1.sub [0, 1] rfl) 0 rfl rfl rfl hl.1 rfl rfl (Nat.le_of_ble_eq_true rfl) ⟨rfl, rfl, Nat.le_of_ble_eq_true rfl, Nat.le_of_ble_eq_true rfl, Nat.zero_le _, Nat.zero_le _⟩ dX12_worst_6 ?_
  refine lv_istore_n (lv' := [(3, .int r_1), (2, .int (-1)), (1, .int (-9)), (0, .ref a0)]) hx hb dX12_worst_9 rfl hl (by decide) rfl (fun ls hl => ?_)
  refine lv_iconst (v := 0) hx hb dX12_worst_10 (by decide) ?_
  refine lv_istore (lv' := [(4, .int 0), (3, .int r_1), (2, .int (-1)), (1, .int (-9)), (0, .ref a0)]) hx hb dX12_worst_11 hl (by decide) rfl (fun ls hl => ?_)
  obtain ⟨T13, hT13, h⟩ := sat_reg h
  have E13 : ∀ (e1_5 : Int32) (m_far_6 : ar) (H : Heap) (locs : List Loc) (ls : Array Slot), T13 (e1_5, m_far_6) → wd D A s.heap H locs [(a0, .inr (12, [.int m_nodes, .int m_every, .int m_halves, .int m_age, .int m_life, .int m_first, .ref a1, .int m_undoMany, .int m_undoAt, .ref a2, .ref a3, .ref a4, .int m_letterMany, .ref a5, .int m_readAt, .int m_tokenAt, .int m_token, .int m_newNodes, .int m_newEvery, .int m_newHalves, .int m_newAge, .int m_newLife, .int m_newFirst, .int m_newLinks, .ref a6, .int m_pathMany, .int m_pathDelay, .ref a7, .ref a8, .int m_seenMany, .ref a9, .ref a10, .ref a11])), (a1, .inl (cI, 622, .inl m_now)), (a8, .inl (cI, 36, .inl m_far_6))] → lv_has ls 6 [(1, .int e1_5)] → W p l e rm_X12_worst s m args below meth c H locs 0 0 Q (F0 m 63 ls []) := by
    intro e1_5 m_far_6 H locs ls h w hl
    have h := hT13 _ h
    dsimp only at h
    refine lv_iload_n hx hb dX12_worst_63 rfl (lv_at hl 0 rfl) ?_
    have hR := hC0 _ (sat_some h)
    subst hR
    exact hret _ _ _ _ w dX12_worst_64
  have L13 : ∀ (n : Nat) (x1_13 : Int32) (x2_13 : Int32) (x4_13 : Int32) (m_far_13 : ar) (H : Heap) (locs : List Loc) (ls : Array Slot), sat (f_X12_worst_L13 m_nodes m_now N r_1 n x1_13 x2_13 x4_13 m_far_13) T13 → wd D A s.heap H locs [(a0, .inr (12, [.int m_nodes, .int m_every, .int m_halves, .int m_age, .int m_life, .int m_first, .ref a1, .int m_undoMany, .int m_undoAt, .ref a2, .ref a3, .ref a4, .int m_letterMany, .ref a5, .int m_readAt, .int m_tokenAt, .int m_token, .int m_newNodes, .int m_newEvery, .int m_newHalves, .int m_newAge, .int m_newLife, .int m_newFirst, .int m_newLinks, .ref a6, .int m_pathMany, .int m_pathDelay, .ref a7, .ref a8, .int m_seenMany, .ref a9, .ref a10, .ref a11])), (a1, .inl (cI, 622, .inl m_now)), (a8, .inl (cI, 36, .inl m_far_13))] → lv_has ls 6 [(0, .ref a0), (1, .int x1_13), (2, .int x2_13), (3, .int r_1), (4, .int x4_13)] → W p l e rm_X12_worst s m args below meth c H locs 0 0 Q (F0 m 13 ls []) := by
    intro n
    induction n with
    | zero =>
      intro x1_13 x2_13 x4_13 m_far_13 H locs ls h
      rw [f_X12_worst_L13] at h
      exact (sat_none h).elim
    | succ n ih =>
      intro x1_13 x2_13 x4_13 m_far_13 H locs ls h w hl
      rw [f_X12_worst_L13] at h
      refine lv_iload hx hb dX12_worst_13 (lv_at hl 4 rfl) ?_
      refine lv_iload_n hx hb dX12_worst_15 rfl (lv_at hl 3 rfl) ?_
      refine lv_icmp_ge (tgt := 63) hx hb dX12_worst_16 (by decide) (fun c16 => ?_) (fun c16 => ?_)
      · have h := sat_t c16 h
        exact E13 x1_13 m_far_13 _ _ _ (sat_some h) w (lv_sub hl [1] rfl)
      · have h := sat_f c16 h
        refine lv_aload_n hx hb dX12_worst_19 rfl (lv_at hl 0 rfl) ?_
        refine lv_aload_n hx hb dX12_worst_20 rfl (lv_at hl 0 rfl) ?_
        refine lv_iload hx hb dX12_worst_21 (lv_at hl 4 rfl) ?_
        obtain ⟨r_2, e_2, h⟩ := sat_bind h
        refine cRV (rest := [.ref a0]) hx hb hml hown hk (k_X12_pairOf l D cI cZ cK N a0 a1 a2 a3 a4 a5 a6 a7 a8 a9 a10 a11 m_nodes m_every m_halves m_age m_life m_first m_undoMany m_undoAt m_letterMany m_readAt m_tokenAt m_token m_newNodes m_newEvery m_newHalves m_newAge m_newLife m_newFirst m_newLinks m_pathMany m_pathDelay m_seenMany m_now x4_13 r_2 e_2) (me_X12_pairOf hk.2.1) (mi_X12_pairOf hk.2.1) (ml_X12_135 hk.2.1) (w.1.sub [0, 1] rfl) 0 rfl rfl rfl hl.1 rfl rfl (Nat.le_of_ble_eq_true rfl) ⟨rfl, rfl, Nat.le_of_ble_eq_true rfl, Nat.le_of_ble_eq_true rfl, Nat.zero_le _, Nat.zero_le _⟩ dX12_worst_23 ?_
        obtain ⟨r_3, e_3, h⟩ := sat_bind h
        refine cMV (rest := []) (wr := []) (ws' := [(a0, .inr (12, [.int m_nodes, .int m_every, .int m_halves, .int m_age, .int m_life, .int m_first, .ref a1, .int m_undoMany, .int m_undoAt, .ref a2, .ref a3, .ref a4, .int m_letterMany, .ref a5, .int m_readAt, .int m_tokenAt, .int m_token, .int m_newNodes, .int m_newEvery, .int m_newHalves, .int m_newAge, .int m_newLife, .int m_newFirst, .int m_newLinks, .ref a6, .int m_pathMany, .int m_pathDelay, .ref a7, .ref a8, .int m_seenMany, .ref a9, .ref a10, .ref a11])), (a1, .inl (cI, 622, .inl m_now)), (a8, .inl (cI, 36, .inl r_3.2))]) hx hb hml hown hk w hA (k_X12_hurtOf l D cI cZ cK N a0 a1 a2 a3 a4 a5 a6 a7 a8 a9 a10 a11 m_nodes m_every m_halves m_age m_life m_first m_undoMany m_undoAt m_letterMany m_readAt m_tokenAt m_token m_newNodes m_newEvery m_newHalves m_newAge m_newLife m_newFirst m_newLinks m_pathMany m_pathDelay m_seenMany m_now m_far_13 r_2 r_3 e_3) (me_X12_hurtOf hk.2.1) (mi_X12_hurtOf hk.2.1) (ml_X12_201 hk.2.1) ((pmn 3 [0, 1, 2] rfl rfl (by decide))) ((pmn 3 [0, 1, 2] rfl rfl (by decide))) 0 rfl rfl rfl hl.1 rfl rfl (Nat.le_of_ble_eq_true rfl) ⟨rfl, rfl, Nat.le_of_ble_eq_true rfl, Nat.le_of_ble_eq_true rfl, Nat.zero_le _, Nat.zero_le _⟩ dX12_worst_26 (fun H locs w => ?_)
        refine W.eq (g2 := F0 m 29 ls [.int r_3.1]) rfl ?_
        refine lv_istore (lv' := [(5, .int r_3.1), (0, .ref a0), (1, .int x1_13), (2, .int x2_13), (3, .int r_1), (4, .int x4_13)]) hx hb dX12_worst_29 hl (by decide) rfl (fun ls hl => ?_)
        refine lv_iload hx hb dX12_worst_31 (lv_at hl 0 rfl) ?_
        refine lv_iload_n hx hb dX12_worst_33 rfl (lv_at hl 3 rfl) ?_
        obtain ⟨T34, hT34, h⟩ := sat_reg h
        have J34 : ∀ (j_4 : Int32) (H : Heap) (locs : List Loc) (ls : Array Slot), T34 j_4 → wd D A s.heap H locs [(a0, .inr (12, [.int m_nodes, .int m_every, .int m_halves, .int m_age, .int m_life, .int m_first, .ref a1, .int m_undoMany, .int m_undoAt, .ref a2, .ref a3, .ref a4, .int m_letterMany, .ref a5, .int m_readAt, .int m_tokenAt, .int m_token, .int m_newNodes, .int m_newEvery, .int m_newHalves, .int m_newAge, .int m_newLife, .int m_newFirst, .int m_newLinks, .ref a6, .int m_pathMany, .int m_pathDelay, .ref a7, .ref a8, .int m_seenMany, .ref a9, .ref a10, .ref a11])), (a1, .inl (cI, 622, .inl m_now)), (a8, .inl (cI, 36, .inl r_3.2))] → lv_has ls 6 [(0, .ref a0), (2, .int x2_13), (3, .int r_1), (4, .int x4_13), (5, .int r_3.1)] → W p l e rm_X12_worst s m args below meth c H locs 0 0 Q (F0 m 43 ls [.int j_4]) := by
          intro j_4 H locs ls h w hl
          have h := hT34 _ h
          refine lv_istore_n (lv' := [(1, .int j_4), (0, .ref a0), (2, .int x2_13), (3, .int r_1), (4, .int x4_13), (5, .int r_3.1)]) hx hb dX12_worst_43 rfl hl (by decide) rfl (fun ls hl => ?_)
          refine lv_iload hx hb dX12_worst_44 (lv_at hl 5 rfl) ?_
          refine lv_iload_n hx hb dX12_worst_46 rfl (lv_at hl 2 rfl) ?_
          refine lv_icmp_le (tgt := 55) hx hb dX12_worst_47 (by decide) (fun c47 => ?_) (fun c47 => ?_)
          · have h := sat_t c47 h
            refine lv_iload_n hx hb dX12_worst_55 rfl (lv_at hl 2 rfl) ?_
            refine lv_istore_n (lv' := [(2, .int x2_13), (1, .int j_4), (0, .ref a0), (3, .int r_1), (4, .int x4_13), (5, .int r_3.1)]) hx hb dX12_worst_56 rfl hl (by decide) rfl (fun ls hl => ?_)
            refine lv_iinc (v := x4_13 + 1) (lv' := [(4, .int (x4_13 + 1)), (2, .int x2_13), (1, .int j_4), (0, .ref a0), (3, .int r_1), (5, .int r_3.1)]) hx hb dX12_worst_57 hl (k := 4) rfl (congrArg (fun z => x4_13 + z) (by decide)) (by decide) rfl (fun ls hl => ?_)
            refine lv_goto (tgt := 13) hx hb dX12_worst_60 (by decide) ?_
            exact ih j_4 x2_13 (x4_13 + 1) r_3.2 _ _ _ h w (lv_sub hl [3, 2, 1, 4, 0] rfl)
          · have h := sat_f c47 h
            refine lv_iload hx hb dX12_worst_50 (lv_at hl 5 rfl) ?_
            refine lv_goto (tgt := 56) hx hb dX12_worst_52 (by decide) ?_
            refine lv_istore_n (lv' := [(2, .int r_3.1), (1, .int j_4), (0, .ref a0), (3, .int r_1), (4, .int x4_13), (5, .int r_3.1)]) hx hb dX12_worst_56 rfl hl (by decide) rfl (fun ls hl => ?_)
            refine lv_iinc (v := x4_13 + 1) (lv' := [(4, .int (x4_13 + 1)), (2, .int r_3.1), (1, .int j_4), (0, .ref a0), (3, .int r_1), (5, .int r_3.1)]) hx hb dX12_worst_57 hl (k := 4) rfl (congrArg (fun z => x4_13 + z) (by decide)) (by decide) rfl (fun ls hl => ?_)
            refine lv_goto (tgt := 13) hx hb dX12_worst_60 (by decide) ?_
            exact ih j_4 r_3.1 (x4_13 + 1) r_3.2 _ _ _ h w (lv_sub hl [3, 2, 1, 4, 0] rfl)
        refine lv_icmp_le (tgt := 42) hx hb dX12_worst_34 (by decide) (fun c34 => ?_) (fun c34 => ?_)
        · have h := sat_t c34 h
          refine lv_iload_n hx hb dX12_worst_42 rfl (lv_at hl 2 rfl) ?_
          exact J34 x1_13 _ _ _ (sat_some h) w (lv_sub hl [1, 3, 4, 5, 0] rfl)
        · have h := sat_f c34 h
          refine lv_iload hx hb dX12_worst_37 (lv_at hl 5 rfl) ?_
          refine lv_goto (tgt := 43) hx hb dX12_worst_39 (by decide) ?_
          exact J34 x4_13 _ _ _ (sat_some h) w (lv_sub hl [1, 3, 4, 5, 0] rfl)
  exact L13 N (-9) (-1) 0 m_far _ _ _ h w (lv_sub hl [4, 3, 2, 1, 0] rfl)
def f_X12_sees (m_nodes : Int32) (m_seenMany : Int32) (m_seenFrom : ar) (m_seenTo : ar) (m_seen : ar) (x1 : Int32) (x2 : Int32) (x3 : Int32) : Option (Int32 × Int32 × ar × ar × ar) := Option.bind (f_X12_isNode m_nodes x1) fun r_1 => if (b2i r_1) = 0 then some ((-1), m_seenMany, m_seenFrom, m_seenTo, m_seen) else Option.bind (f_X12_isNode m_nodes x2) fun r_2 => if (b2i r_2) = 0 then some ((-1), m_seenMany, m_seenFrom, m_seenTo, m_seen) else if x1 = x2 then some ((-1), m_seenMany, m_seenFrom, m_seenTo, m_seen) else Option.bind (f_X12_in x3 0 99) fun r_3 => if (b2i r_3) = 0 then some ((-1), m_seenMany, m_seenFrom, m_seenTo, m_seen) else if m_seenMany = 6 then some ((-3), m_seenMany, m_seenFrom, m_seenTo, m_seen) else ck (inb m_seenMany 6) (ck (inb m_seenMany 6) (ck (inb m_seenMany 6) (some (m_seenMany + 1, m_seenMany + 1, upd m_seenFrom m_seenMany.toNatClampNeg x1, upd m_seenTo m_seenMany.toNatClampNeg x2, upd m_seen m_seenMany.toNatClampNeg x3))))
abbrev rm_X12_sees : Room := { frames := 2, cells := 0, slots := 0, locals := 43 }
set_option maxRecDepth 100000 in
set_option maxHeartbeats 4000000 in
theorem k_X12_sees (l : Launch) (D : va_G) (cI cZ cK : ClassId) (a0 a1 a2 a3 a4 a5 a6 a7 a8 a9 a10 a11 : Nat) (m_nodes : Int32) (m_every : Int32) (m_halves : Int32) (m_age : Int32) (m_life : Int32) (m_first : Int32) (m_undoMany : Int32) (m_undoAt : Int32) (m_letterMany : Int32) (m_readAt : Int32) (m_tokenAt : Int32) (m_token : Int32) (m_newNodes : Int32) (m_newEvery : Int32) (m_newHalves : Int32) (m_newAge : Int32) (m_newLife : Int32) (m_newFirst : Int32) (m_newLinks : Int32) (m_pathMany : Int32) (m_pathDelay : Int32) (m_seenMany : Int32) (m_seenFrom : ar) (m_seenTo : ar) (m_seen : ar) (x1 : Int32) (x2 : Int32) (x3 : Int32) (R : Int32 × Int32 × ar × ar × ar) (h : f_X12_sees m_nodes m_seenMany m_seenFrom m_seenTo m_seen x1 x2 x3 = some R) : Mu l D cI cZ cK yX12_sees cX12_sees 4 (some .int) rm_X12_sees [.ref a0, .int x1, .int x2, .int x3] [(a0, .inr (12, [.int m_nodes, .int m_every, .int m_halves, .int m_age, .int m_life, .int m_first, .ref a1, .int m_undoMany, .int m_undoAt, .ref a2, .ref a3, .ref a4, .int m_letterMany, .ref a5, .int m_readAt, .int m_tokenAt, .int m_token, .int m_newNodes, .int m_newEvery, .int m_newHalves, .int m_newAge, .int m_newLife, .int m_newFirst, .int m_newLinks, .ref a6, .int m_pathMany, .int m_pathDelay, .ref a7, .ref a8, .int m_seenMany, .ref a9, .ref a10, .ref a11])), (a9, .inl (cI, 6, .inl m_seenFrom)), (a10, .inl (cI, 6, .inl m_seenTo)), (a11, .inl (cI, 6, .inl m_seen))] (some (.int R.1)) [(a0, .inr (12, [.int m_nodes, .int m_every, .int m_halves, .int m_age, .int m_life, .int m_first, .ref a1, .int m_undoMany, .int m_undoAt, .ref a2, .ref a3, .ref a4, .int m_letterMany, .ref a5, .int m_readAt, .int m_tokenAt, .int m_token, .int m_newNodes, .int m_newEvery, .int m_newHalves, .int m_newAge, .int m_newLife, .int m_newFirst, .int m_newLinks, .ref a6, .int m_pathMany, .int m_pathDelay, .ref a7, .ref a8, .int R.2.1, .ref a9, .ref a10, .ref a11])), (a9, .inl (cI, 6, .inl R.2.2.1)), (a10, .inl (cI, 6, .inl R.2.2.2.1)), (a11, .inl (cI, 6, .inl R.2.2.2.2))] := by
  refine mi_of (by decide) (vp_nar_int _) (Nat.le_of_ble_eq_true rfl) ?_
  intro p e s m args below meth c Q A ls hx hb hml hown hk hA w hret hl
  have hl : lv_has ls 4 [(0, .ref a0), (1, .int x1), (2, .int x2), (3, .int x3)] := hl
  obtain ⟨C0, hC0, h⟩ := sat_top h
  unfold f_X12_sees at h
  refine lv_aload_n hx hb dX12_sees_0 rfl (lv_at hl 0 rfl) ?_
  refine lv_iload_n hx hb dX12_sees_1 rfl (lv_at hl 1 rfl) ?_
  obtain ⟨r_1, e_1, h⟩ := sat_bind h
  refine cRV (rest := []) hx hb hml hown hk (k_X12_isNode l D cI cZ cK a0 a1 a2 a3 a4 a5 a6 a7 a8 a9 a10 a11 m_nodes m_every m_halves m_age m_life m_first m_undoMany m_undoAt m_letterMany m_readAt m_tokenAt m_token m_newNodes m_newEvery m_newHalves m_newAge m_newLife m_newFirst m_newLinks m_pathMany m_pathDelay m_seenMany x1 r_1 e_1) (me_X12_isNode hk.2.1) (mi_X12_isNode hk.2.1) (ml_X12_162 hk.2.1) (w.1.sub [0] rfl) 0 rfl rfl rfl hl.1 rfl rfl (Nat.le_of_ble_eq_true rfl) ⟨rfl, rfl, Nat.le_of_ble_eq_true rfl, Nat.le_of_ble_eq_true rfl, Nat.zero_le _, Nat.zero_le _⟩ dX12_sees_2 ?_
  refine lv_if_eq (tgt := 31) hx hb dX12_sees_5 (by decide) (fun c5 => ?_) (fun c5 => ?_)
  · have h := sat_t c5 h
    refine lv_iconst (v := (-1)) hx hb dX12_sees_31 (by decide) ?_
    have hR := hC0 _ (sat_some h)
    subst hR
    exact hret _ _ _ _ w dX12_sees_32
  · have h := sat_f c5 h
    refine lv_aload_n hx hb dX12_sees_8 rfl (lv_at hl 0 rfl) ?_
    refine lv_iload_n hx hb dX12_sees_9 rfl (lv_at hl 2 rfl) ?_
    obtain ⟨r_2, e_2, h⟩ := sat_bind h
    refine cRV (rest := []) hx hb hml hown hk (k_X12_isNode l D cI cZ cK a0 a1 a2 a3 a4 a5 a6 a7 a8 a9 a10 a11 m_nodes m_every m_halves m_age m_life m_first m_undoMany m_undoAt m_letterMany m_readAt m_tokenAt m_token m_newNodes m_newEvery m_newHalves m_newAge m_newLife m_newFirst m_newLinks m_pathMany m_pathDelay m_seenMany x2 r_2 e_2) (me_X12_isNode hk.2.1) (mi_X12_isNode hk.2.1) (ml_X12_162 hk.2.1) (w.1.sub [0] rfl) 0 rfl rfl rfl hl.1 rfl rfl (Nat.le_of_ble_eq_true rfl) ⟨rfl, rfl, Nat.le_of_ble_eq_true rfl, Nat.le_of_ble_eq_true rfl, Nat.zero_le _, Nat.zero_le _⟩ dX12_sees_10 ?_
    refine lv_if_eq (tgt := 31) hx hb dX12_sees_13 (by decide) (fun c13 => ?_) (fun c13 => ?_)
    · have h := sat_t c13 h
      refine lv_iconst (v := (-1)) hx hb dX12_sees_31 (by decide) ?_
      have hR := hC0 _ (sat_some h)
      subst hR
      exact hret _ _ _ _ w dX12_sees_32
    · have h := sat_f c13 h
      refine lv_iload_n hx hb dX12_sees_16 rfl (lv_at hl 1 rfl) ?_
      refine lv_iload_n hx hb dX12_sees_17 rfl (lv_at hl 2 rfl) ?_
      refine lv_icmp_eq (tgt := 31) hx hb dX12_sees_18 (by decide) (fun c18 => ?_) (fun c18 => ?_)
      · have h := sat_t c18 h
        refine lv_iconst (v := (-1)) hx hb dX12_sees_31 (by decide) ?_
        have hR := hC0 _ (sat_some h)
        subst hR
        exact hret _ _ _ _ w dX12_sees_32
      · have h := sat_f c18 h
        refine lv_iload_n hx hb dX12_sees_21 rfl (lv_at hl 3 rfl) ?_
        refine lv_iconst (v := 0) hx hb dX12_sees_22 (by decide) ?_
        refine lv_bipush (v := 99) hx hb dX12_sees_23 (by decide) ?_
        obtain ⟨r_3, e_3, h⟩ := sat_bind h
        refine cRS (rest := []) hx hb hml hown hk (k_X12_in l D cI cZ cK x3 0 99 r_3 e_3) (me_X12_in hk.2.1) (ms_X12_in hk.2.1) (ml_X12_58 hk.2.1) (w.1.sub [] rfl) hl.1 rfl rfl (Nat.le_of_ble_eq_true rfl) ⟨rfl, rfl, Nat.le_of_ble_eq_true rfl, Nat.le_of_ble_eq_true rfl, Nat.zero_le _, Nat.zero_le _⟩ dX12_sees_25 ?_
        refine lv_if_ne (tgt := 33) hx hb dX12_sees_28 (by decide) (fun c28 => ?_) (fun c28 => ?_)
        · have h := sat_f c28 h
          refine lv_aload_n hx hb dX12_sees_33 rfl (lv_at hl 0 rfl) ?_
          refine gf_X12_132 hx hb hown hk w.1 0 rfl rfl dX12_sees_34 ?_
          refine lv_bipush (v := 6) hx hb dX12_sees_37 (by decide) ?_
          refine lv_icmp_ne (tgt := 45) hx hb dX12_sees_39 (by decide) (fun c39 => ?_) (fun c39 => ?_)
          · have h := sat_f c39 h
            refine lv_aload_n hx hb dX12_sees_45 rfl (lv_at hl 0 rfl) ?_
            refine gf_X12_45 hx hb hown hk w.1 0 rfl rfl dX12_sees_46 ?_
            refine lv_aload_n hx hb dX12_sees_49 rfl (lv_at hl 0 rfl) ?_
            refine gf_X12_132 hx hb hown hk w.1 0 rfl rfl dX12_sees_50 ?_
            refine lv_iload_n hx hb dX12_sees_53 rfl (lv_at hl 1 rfl) ?_
            obtain ⟨hi, h⟩ := sat_in h
            refine ra_ist (ws' := [(a0, .inr (12, [.int m_nodes, .int m_every, .int m_halves, .int m_age, .int m_life, .int m_first, .ref a1, .int m_undoMany, .int m_undoAt, .ref a2, .ref a3, .ref a4, .int m_letterMany, .ref a5, .int m_readAt, .int m_tokenAt, .int m_token, .int m_newNodes, .int m_newEvery, .int m_newHalves, .int m_newAge, .int m_newLife, .int m_newFirst, .int m_newLinks, .ref a6, .int m_pathMany, .int m_pathDelay, .ref a7, .ref a8, .int m_seenMany, .ref a9, .ref a10, .ref a11])), (a9, .inl (cI, 6, .inl (upd m_seenFrom m_seenMany.toNatClampNeg x1))), (a10, .inl (cI, 6, .inl m_seenTo)), (a11, .inl (cI, 6, .inl m_seen))]) hx hb hk w 1 rfl hi rfl dX12_sees_54 (fun H locs w => ?_)
            refine lv_aload_n hx hb dX12_sees_55 rfl (lv_at hl 0 rfl) ?_
            refine gf_X12_48 hx hb hown hk w.1 0 rfl rfl dX12_sees_56 ?_
            refine lv_aload_n hx hb dX12_sees_59 rfl (lv_at hl 0 rfl) ?_
            refine gf_X12_132 hx hb hown hk w.1 0 rfl rfl dX12_sees_60 ?_
            refine lv_iload_n hx hb dX12_sees_63 rfl (lv_at hl 2 rfl) ?_
            obtain ⟨hi, h⟩ := sat_in h
            refine ra_ist (ws' := [(a0, .inr (12, [.int m_nodes, .int m_every, .int m_halves, .int m_age, .int m_life, .int m_first, .ref a1, .int m_undoMany, .int m_undoAt, .ref a2, .ref a3, .ref a4, .int m_letterMany, .ref a5, .int m_readAt, .int m_tokenAt, .int m_token, .int m_newNodes, .int m_newEvery, .int m_newHalves, .int m_newAge, .int m_newLife, .int m_newFirst, .int m_newLinks, .ref a6, .int m_pathMany, .int m_pathDelay, .ref a7, .ref a8, .int m_seenMany, .ref a9, .ref a10, .ref a11])), (a9, .inl (cI, 6, .inl (upd m_seenFrom m_seenMany.toNatClampNeg x1))), (a10, .inl (cI, 6, .inl (upd m_seenTo m_seenMany.toNatClampNeg x2))), (a11, .inl (cI, 6, .inl m_seen))]) hx hb hk w 2 rfl hi rfl dX12_sees_64 (fun H locs w => ?_)
            refine lv_aload_n hx hb dX12_sees_65 rfl (lv_at hl 0 rfl) ?_
            refine gf_X12_51 hx hb hown hk w.1 0 rfl rfl dX12_sees_66 ?_
            refine lv_aload_n hx hb dX12_sees_69 rfl (lv_at hl 0 rfl) ?_
            refine gf_X12_132 hx hb hown hk w.1 0 rfl rfl dX12_sees_70 ?_
            refine lv_iload_n hx hb dX12_sees_73 rfl (lv_at hl 3 rfl) ?_
            obtain ⟨hi, h⟩ := sat_in h
            refine ra_ist (ws' := [(a0, .inr (12, [.int m_nodes, .int m_every, .int m_halves, .int m_age, .int m_life, .int m_first, .ref a1, .int m_undoMany, .int m_undoAt, .ref a2, .ref a3, .ref a4, .int m_letterMany, .ref a5, .int m_readAt, .int m_tokenAt, .int m_token, .int m_newNodes, .int m_newEvery, .int m_newHalves, .int m_newAge, .int m_newLife, .int m_newFirst, .int m_newLinks, .ref a6, .int m_pathMany, .int m_pathDelay, .ref a7, .ref a8, .int m_seenMany, .ref a9, .ref a10, .ref a11])), (a9, .inl (cI, 6, .inl (upd m_seenFrom m_seenMany.toNatClampNeg x1))), (a10, .inl (cI, 6, .inl (upd m_seenTo m_seenMany.toNatClampNeg x2))), (a11, .inl (cI, 6, .inl (upd m_seen m_seenMany.toNatClampNeg x3)))]) hx hb hk w 3 rfl hi rfl dX12_sees_74 (fun H locs w => ?_)
            refine lv_aload_n hx hb dX12_sees_75 rfl (lv_at hl 0 rfl) ?_
            refine lv_dup hx hb dX12_sees_76 rfl ?_
            refine gf_X12_132 hx hb hown hk w.1 0 rfl rfl dX12_sees_77 ?_
            refine lv_iconst (v := 1) hx hb dX12_sees_80 (by decide) ?_
            refine lv_iadd hx hb dX12_sees_81 ?_
            refine pf_X12_132 (ws' := [(a0, .inr (12, [.int m_nodes, .int m_every, .int m_halves, .int m_age, .int m_life, .int m_first, .ref a1, .int m_undoMany, .int m_undoAt, .ref a2, .ref a3, .ref a4, .int m_letterMany, .ref a5, .int m_readAt, .int m_tokenAt, .int m_token, .int m_newNodes, .int m_newEvery, .int m_newHalves, .int m_newAge, .int m_newLife, .int m_newFirst, .int m_newLinks, .ref a6, .int m_pathMany, .int m_pathDelay, .ref a7, .ref a8, .int (m_seenMany + 1), .ref a9, .ref a10, .ref a11])), (a9, .inl (cI, 6, .inl (upd m_seenFrom m_seenMany.toNatClampNeg x1))), (a10, .inl (cI, 6, .inl (upd m_seenTo m_seenMany.toNatClampNeg x2))), (a11, .inl (cI, 6, .inl (upd m_seen m_seenMany.toNatClampNeg x3)))]) hx hb hown hk w 0 rfl (Nat.le_of_ble_eq_true rfl) rfl dX12_sees_82 (fun H locs w => ?_)
            refine lv_aload_n hx hb dX12_sees_85 rfl (lv_at hl 0 rfl) ?_
            refine gf_X12_132 hx hb hown hk w.1 0 rfl rfl dX12_sees_86 ?_
            have hR := hC0 _ (sat_some h)
            subst hR
            exact hret _ _ _ _ w dX12_sees_89
          · have h := sat_t c39 h
            refine lv_bipush (v := (-3)) hx hb dX12_sees_42 (by decide) ?_
            have hR := hC0 _ (sat_some h)
            subst hR
            exact hret _ _ _ _ w dX12_sees_44
        · have h := sat_t c28 h
          refine lv_iconst (v := (-1)) hx hb dX12_sees_31 (by decide) ?_
          have hR := hC0 _ (sat_some h)
          subst hR
          exact hret _ _ _ _ w dX12_sees_32
def f_X12_forget (m_seenMany : Int32) : Option (Int32 × Int32) := some (m_seenMany, 0)
abbrev rm_X12_forget : Room := { frames := 0, cells := 0, slots := 0, locals := 0 }
set_option maxRecDepth 100000 in
set_option maxHeartbeats 4000000 in
theorem k_X12_forget (l : Launch) (D : va_G) (cI cZ cK : ClassId) (a0 a1 a2 a3 a4 a5 a6 a7 a8 a9 a10 a11 : Nat) (m_nodes : Int32) (m_every : Int32) (m_halves : Int32) (m_age : Int32) (m_life : Int32) (m_first : Int32) (m_undoMany : Int32) (m_undoAt : Int32) (m_letterMany : Int32) (m_readAt : Int32) (m_tokenAt : Int32) (m_token : Int32) (m_newNodes : Int32) (m_newEvery : Int32) (m_newHalves : Int32) (m_newAge : Int32) (m_newLife : Int32) (m_newFirst : Int32) (m_newLinks : Int32) (m_pathMany : Int32) (m_pathDelay : Int32) (m_seenMany : Int32) (R : Int32 × Int32) (h : f_X12_forget m_seenMany = some R) : Mu l D cI cZ cK yX12_forget cX12_forget 2 (some .int) rm_X12_forget [.ref a0] [(a0, .inr (12, [.int m_nodes, .int m_every, .int m_halves, .int m_age, .int m_life, .int m_first, .ref a1, .int m_undoMany, .int m_undoAt, .ref a2, .ref a3, .ref a4, .int m_letterMany, .ref a5, .int m_readAt, .int m_tokenAt, .int m_token, .int m_newNodes, .int m_newEvery, .int m_newHalves, .int m_newAge, .int m_newLife, .int m_newFirst, .int m_newLinks, .ref a6, .int m_pathMany, .int m_pathDelay, .ref a7, .ref a8, .int m_seenMany, .ref a9, .ref a10, .ref a11]))] (some (.int R.1)) [(a0, .inr (12, [.int m_nodes, .int m_every, .int m_halves, .int m_age, .int m_life, .int m_first, .ref a1, .int m_undoMany, .int m_undoAt, .ref a2, .ref a3, .ref a4, .int m_letterMany, .ref a5, .int m_readAt, .int m_tokenAt, .int m_token, .int m_newNodes, .int m_newEvery, .int m_newHalves, .int m_newAge, .int m_newLife, .int m_newFirst, .int m_newLinks, .ref a6, .int m_pathMany, .int m_pathDelay, .ref a7, .ref a8, .int R.2, .ref a9, .ref a10, .ref a11]))] := by
  refine mi_of (by decide) (vp_nar_int _) (Nat.le_of_ble_eq_true rfl) ?_
  intro p e s m args below meth c Q A ls hx hb hml hown hk hA w hret hl
  have hl : lv_has ls 2 [(0, .ref a0)] := hl
  obtain ⟨C0, hC0, h⟩ := sat_top h
  unfold f_X12_forget at h
  refine lv_aload_n hx hb dX12_forget_0 rfl (lv_at hl 0 rfl) ?_
  refine gf_X12_132 hx hb hown hk w.1 0 rfl rfl dX12_forget_1 ?_
  refine lv_istore_n (lv' := [(1, .int m_seenMany), (0, .ref a0)]) hx hb dX12_forget_4 rfl hl (by decide) rfl (fun ls hl => ?_)
  refine lv_aload_n hx hb dX12_forget_5 rfl (lv_at hl 1 rfl) ?_
  refine lv_iconst (v := 0) hx hb dX12_forget_6 (by decide) ?_
  refine pf_X12_132 (ws' := [(a0, .inr (12, [.int m_nodes, .int m_every, .int m_halves, .int m_age, .int m_life, .int m_first, .ref a1, .int m_undoMany, .int m_undoAt, .ref a2, .ref a3, .ref a4, .int m_letterMany, .ref a5, .int m_readAt, .int m_tokenAt, .int m_token, .int m_newNodes, .int m_newEvery, .int m_newHalves, .int m_newAge, .int m_newLife, .int m_newFirst, .int m_newLinks, .ref a6, .int m_pathMany, .int m_pathDelay, .ref a7, .ref a8, .int 0, .ref a9, .ref a10, .ref a11]))]) hx hb hown hk w 0 rfl (Nat.le_of_ble_eq_true rfl) rfl dX12_forget_7 (fun H locs w => ?_)
  refine lv_iload_n hx hb dX12_forget_10 rfl (lv_at hl 0 rfl) ?_
  have hR := hC0 _ (sat_some h)
  subst hR
  exact hret _ _ _ _ w dX12_forget_11
def f_X12_unseen_L29 (m_seenMany : Int32) (m_seenFrom : ar) (m_seenTo : ar) (m_seen : ar) (r_3 : ar) : Nat → Int32 → Int32 → Option (Int32)
  | 0, _, _ => none
  | n + 1, x4_29, x5_29 => if m_seenMany ≤ x5_29 then some x4_29 else ck (inb x5_29 6) (ck (inb x5_29 6) (Option.bind (f_X12_farOf r_3 (m_seenFrom x5_29.toNatClampNeg) (m_seenTo x5_29.toNatClampNeg)) fun r_4 => if x4_29 = 0 then f_X12_unseen_L29 m_seenMany m_seenFrom m_seenTo m_seen r_3 n 0 (x5_29 + 1) else ck (inb x5_29 6) (Option.bind (α := Int32) (if r_4 = (-9) then some 0 else some r_4) fun j74 => if (m_seen x5_29.toNatClampNeg) = j74 then f_X12_unseen_L29 m_seenMany m_seenFrom m_seenTo m_seen r_3 n 1 (x5_29 + 1) else f_X12_unseen_L29 m_seenMany m_seenFrom m_seenTo m_seen r_3 n 0 (x5_29 + 1))))
def f_X12_unseen_L9 (m_nodes : Int32) (m_now : ar) (m_seenMany : Int32) (m_seenFrom : ar) (m_seenTo : ar) (m_seen : ar) (N : Nat) (r_1 : Int32) : Nat → Int32 → Int32 → ar → Option (Int32 × ar)
  | 0, _, _, _ => none
  | n + 1, x1_9, x3_9, m_far_9 => if r_1 ≤ x3_9 then some (x1_9, m_far_9) else Option.bind (f_X12_pairOf N m_now x3_9) fun r_2 => Option.bind (f_X12_laysFar N m_nodes m_now m_far_9 r_2) fun r_3 => Option.bind (f_X12_unseen_L29 m_seenMany m_seenFrom m_seenTo m_seen r_3 N 1 0) fun s29 => if s29 = 0 then f_X12_unseen_L9 m_nodes m_now m_seenMany m_seenFrom m_seenTo m_seen N r_1 n (x1_9 ||| 0) (x3_9 + 1) r_3 else f_X12_unseen_L9 m_nodes m_now m_seenMany m_seenFrom m_seenTo m_seen N r_1 n (x1_9 ||| (1 <<< (x3_9 &&& 31))) (x3_9 + 1) r_3
def f_X12_unseen (N : Nat) (m_nodes : Int32) (m_now : ar) (m_far : ar) (m_seenMany : Int32) (m_seenFrom : ar) (m_seenTo : ar) (m_seen : ar) : Option (Int32 × ar) := Option.bind (f_X12_linkMany N m_now) fun r_1 => Option.bind (f_X12_unseen_L9 m_nodes m_now m_seenMany m_seenFrom m_seenTo m_seen N r_1 N 0 0 m_far) fun s9 => some (s9.1, s9.2)
abbrev rm_X12_unseen : Room := { frames := 3, cells := 0, slots := 0, locals := 68 }
set_option maxRecDepth 100000 in
set_option maxHeartbeats 4000000 in
theorem k_X12_unseen (l : Launch) (D : va_G) (cI cZ cK : ClassId) (N : Nat) (a0 a1 a2 a3 a4 a5 a6 a7 a8 a9 a10 a11 : Nat) (m_nodes : Int32) (m_every : Int32) (m_halves : Int32) (m_age : Int32) (m_life : Int32) (m_first : Int32) (m_undoMany : Int32) (m_undoAt : Int32) (m_letterMany : Int32) (m_readAt : Int32) (m_tokenAt : Int32) (m_token : Int32) (m_newNodes : Int32) (m_newEvery : Int32) (m_newHalves : Int32) (m_newAge : Int32) (m_newLife : Int32) (m_newFirst : Int32) (m_newLinks : Int32) (m_pathMany : Int32) (m_pathDelay : Int32) (m_seenMany : Int32) (m_now : ar) (m_far : ar) (m_seenFrom : ar) (m_seenTo : ar) (m_seen : ar) (R : Int32 × ar) (h : f_X12_unseen N m_nodes m_now m_far m_seenMany m_seenFrom m_seenTo m_seen = some R) : Mu l D cI cZ cK yX12_unseen cX12_unseen 7 (some .int) rm_X12_unseen [.ref a0] [(a0, .inr (12, [.int m_nodes, .int m_every, .int m_halves, .int m_age, .int m_life, .int m_first, .ref a1, .int m_undoMany, .int m_undoAt, .ref a2, .ref a3, .ref a4, .int m_letterMany, .ref a5, .int m_readAt, .int m_tokenAt, .int m_token, .int m_newNodes, .int m_newEvery, .int m_newHalves, .int m_newAge, .int m_newLife, .int m_newFirst, .int m_newLinks, .ref a6, .int m_pathMany, .int m_pathDelay, .ref a7, .ref a8, .int m_seenMany, .ref a9, .ref a10, .ref a11])), (a1, .inl (cI, 622, .inl m_now)), (a8, .inl (cI, 36, .inl m_far)), (a9, .inl (cI, 6, .inl m_seenFrom)), (a10, .inl (cI, 6, .inl m_seenTo)), (a11, .inl (cI, 6, .inl m_seen))] (some (.int R.1)) [(a0, .inr (12, [.int m_nodes, .int m_every, .int m_halves, .int m_age, .int m_life, .int m_first, .ref a1, .int m_undoMany, .int m_undoAt, .ref a2, .ref a3, .ref a4, .int m_letterMany, .ref a5, .int m_readAt, .int m_tokenAt, .int m_token, .int m_newNodes, .int m_newEvery, .int m_newHalves, .int m_newAge, .int m_newLife, .int m_newFirst, .int m_newLinks, .ref a6, .int m_pathMany, .int m_pathDelay, .ref a7, .ref a8, .int m_seenMany, .ref a9, .ref a10, .ref a11])), (a1, .inl (cI, 622, .inl m_now)), (a8, .inl (cI, 36, .inl R.2)), (a9, .inl (cI, 6, .inl m_seenFrom)), (a10, .inl (cI, 6, .inl m_seenTo)), (a11, .inl (cI, 6, .inl m_seen))] := by
  refine mi_of (by decide) (vp_nar_int _) (Nat.le_of_ble_eq_true rfl) ?_
  intro p e s m args below meth c Q A ls hx hb hml hown hk hA w hret hl
  have hl : lv_has ls 7 [(0, .ref a0)] := hl
  obtain ⟨C0, hC0, h⟩ := sat_top h
  unfold f_X12_unseen at h
  refine lv_iconst (v := 0) hx hb dX12_unseen_0 (by decide) ?_
  refine lv_istore_n (lv' := [(1, .int 0), (0, .ref a0)]) hx hb dX12_unseen_1 rfl hl (by decide) rfl (fun ls hl => ?_)
  refine lv_aload_n hx hb dX12_unseen_2 rfl (lv_at hl 1 rfl) ?_
  obtain ⟨r_1, e_1, h⟩ := sat_bind h
  refine cRV (rest := []) hx hb hml hown hk (k_X12_linkMany l D cI cZ cK N a0 a1 a2 a3 a4 a5 a6 a7 a8 a9 a10 a11 m_nodes m_every m_halves m_age m_life m_first m_undoMany m_undoAt m_letterMany m_readAt m_tokenAt m_token m_newNodes m_newEvery m_newHalves m_newAge m_newLife m_newFirst m_newLinks m_pathMany m_pathDelay m_seenMany m_now r_1 e_1) (me_X12_linkMany hk.2.1) (mi_X12_linkMany hk.2.1) (ml_X12_175 hk.2.1) (w.1.sub [0, 1] rfl) 0 rfl rfl rfl hl.1 rfl rfl (Nat.le_of_ble_eq_true rfl) ⟨rfl, rfl, Nat.le_of_ble_eq_true rfl, Nat.le_of_ble_eq_true rfl, Nat.zero_le _, Nat.zero_le _⟩ dX12_unseen_3 ?_
  refine lv_istore_n (lv' := [(2, .int r_1), (1, .int 0), (0, .ref a0)]) hx hb dX12_unseen_6 rfl hl (by decide) rfl (fun ls hl => ?_)
  refine lv_iconst (v := 0) hx hb dX12_unseen_7 (by decide) ?_
  refine lv_istore_n (lv' := [(3, .int 0), (2, .int r_1), (1, .int 0), (0, .ref a0)]) hx hb dX12_unseen_8 rfl hl (by decide) rfl (fun ls hl => ?_)
  obtain ⟨T9, hT9, h⟩ := sat_reg h
  have E9 : ∀ (e1_7 : Int32) (m_far_8 : ar) (H : Heap) (locs : List Loc) (ls : Array Slot), T9 (e1_7, m_far_8) → wd D A s.heap H locs [(a0, .inr (12, [.int m_nodes, .int m_every, .int m_halves, .int m_age, .int m_life, .int m_first, .ref a1, .int m_undoMany, .int m_undoAt, .ref a2, .ref a3, .ref a4, .int m_letterMany, .ref a5, .int m_readAt, .int m_tokenAt, .int m_token, .int m_newNodes, .int m_newEvery, .int m_newHalves, .int m_newAge, .int m_newLife, .int m_newFirst, .int m_newLinks, .ref a6, .int m_pathMany, .int m_pathDelay, .ref a7, .ref a8, .int m_seenMany, .ref a9, .ref a10, .ref a11])), (a1, .inl (cI, 622, .inl m_now)), (a8, .inl (cI, 36, .inl m_far_8)), (a9, .inl (cI, 6, .inl m_seenFrom)), (a10, .inl (cI, 6, .inl m_seenTo)), (a11, .inl (cI, 6, .inl m_seen))] → lv_has ls 7 [(1, .int e1_7)] → W p l e rm_X12_unseen s m args below meth c H locs 0 0 Q (F0 m 120 ls []) := by
    intro e1_7 m_far_8 H locs ls h w hl
    have h := hT9 _ h
    dsimp only at h
    refine lv_iload_n hx hb dX12_unseen_120 rfl (lv_at hl 0 rfl) ?_
    have hR := hC0 _ (sat_some h)
    subst hR
    exact hret _ _ _ _ w dX12_unseen_121
  have L9 : ∀ (n : Nat) (x1_9 : Int32) (x3_9 : Int32) (m_far_9 : ar) (H : Heap) (locs : List Loc) (ls : Array Slot), sat (f_X12_unseen_L9 m_nodes m_now m_seenMany m_seenFrom m_seenTo m_seen N r_1 n x1_9 x3_9 m_far_9) T9 → wd D A s.heap H locs [(a0, .inr (12, [.int m_nodes, .int m_every, .int m_halves, .int m_age, .int m_life, .int m_first, .ref a1, .int m_undoMany, .int m_undoAt, .ref a2, .ref a3, .ref a4, .int m_letterMany, .ref a5, .int m_readAt, .int m_tokenAt, .int m_token, .int m_newNodes, .int m_newEvery, .int m_newHalves, .int m_newAge, .int m_newLife, .int m_newFirst, .int m_newLinks, .ref a6, .int m_pathMany, .int m_pathDelay, .ref a7, .ref a8, .int m_seenMany, .ref a9, .ref a10, .ref a11])), (a1, .inl (cI, 622, .inl m_now)), (a8, .inl (cI, 36, .inl m_far_9)), (a9, .inl (cI, 6, .inl m_seenFrom)), (a10, .inl (cI, 6, .inl m_seenTo)), (a11, .inl (cI, 6, .inl m_seen))] → lv_has ls 7 [(0, .ref a0), (1, .int x1_9), (2, .int r_1), (3, .int x3_9)] → W p l e rm_X12_unseen s m args below meth c H locs 0 0 Q (F0 m 9 ls []) := by
    intro n
    induction n with
    | zero =>
      intro x1_9 x3_9 m_far_9 H locs ls h
      rw [f_X12_unseen_L9] at h
      exact (sat_none h).elim
    | succ n ih =>
      intro x1_9 x3_9 m_far_9 H locs ls h w hl
      rw [f_X12_unseen_L9] at h
      refine lv_iload_n hx hb dX12_unseen_9 rfl (lv_at hl 3 rfl) ?_
      refine lv_iload_n hx hb dX12_unseen_10 rfl (lv_at hl 2 rfl) ?_
      refine lv_icmp_ge (tgt := 120) hx hb dX12_unseen_11 (by decide) (fun c11 => ?_) (fun c11 => ?_)
      · have h := sat_t c11 h
        exact E9 x1_9 m_far_9 _ _ _ (sat_some h) w (lv_sub hl [1] rfl)
      · have h := sat_f c11 h
        refine lv_aload_n hx hb dX12_unseen_14 rfl (lv_at hl 0 rfl) ?_
        refine lv_aload_n hx hb dX12_unseen_15 rfl (lv_at hl 0 rfl) ?_
        refine lv_iload_n hx hb dX12_unseen_16 rfl (lv_at hl 3 rfl) ?_
        obtain ⟨r_2, e_2, h⟩ := sat_bind h
        refine cRV (rest := [.ref a0]) hx hb hml hown hk (k_X12_pairOf l D cI cZ cK N a0 a1 a2 a3 a4 a5 a6 a7 a8 a9 a10 a11 m_nodes m_every m_halves m_age m_life m_first m_undoMany m_undoAt m_letterMany m_readAt m_tokenAt m_token m_newNodes m_newEvery m_newHalves m_newAge m_newLife m_newFirst m_newLinks m_pathMany m_pathDelay m_seenMany m_now x3_9 r_2 e_2) (me_X12_pairOf hk.2.1) (mi_X12_pairOf hk.2.1) (ml_X12_135 hk.2.1) (w.1.sub [0, 1] rfl) 0 rfl rfl rfl hl.1 rfl rfl (Nat.le_of_ble_eq_true rfl) ⟨rfl, rfl, Nat.le_of_ble_eq_true rfl, Nat.le_of_ble_eq_true rfl, Nat.zero_le _, Nat.zero_le _⟩ dX12_unseen_17 ?_
        obtain ⟨r_3, e_3, h⟩ := sat_bind h
        refine cMV (rest := []) (wr := [(a9, .inl (cI, 6, .inl m_seenFrom)), (a10, .inl (cI, 6, .inl m_seenTo)), (a11, .inl (cI, 6, .inl m_seen))]) (ws' := [(a0, .inr (12, [.int m_nodes, .int m_every, .int m_halves, .int m_age, .int m_life, .int m_first, .ref a1, .int m_undoMany, .int m_undoAt, .ref a2, .ref a3, .ref a4, .int m_letterMany, .ref a5, .int m_readAt, .int m_tokenAt, .int m_token, .int m_newNodes, .int m_newEvery, .int m_newHalves, .int m_newAge, .int m_newLife, .int m_newFirst, .int m_newLinks, .ref a6, .int m_pathMany, .int m_pathDelay, .ref a7, .ref a8, .int m_seenMany, .ref a9, .ref a10, .ref a11])), (a1, .inl (cI, 622, .inl m_now)), (a8, .inl (cI, 36, .inl r_3)), (a9, .inl (cI, 6, .inl m_seenFrom)), (a10, .inl (cI, 6, .inl m_seenTo)), (a11, .inl (cI, 6, .inl m_seen))]) hx hb hml hown hk w hA (k_X12_laysFar l D cI cZ cK N a0 a1 a2 a3 a4 a5 a6 a7 a8 a9 a10 a11 m_nodes m_every m_halves m_age m_life m_first m_undoMany m_undoAt m_letterMany m_readAt m_tokenAt m_token m_newNodes m_newEvery m_newHalves m_newAge m_newLife m_newFirst m_newLinks m_pathMany m_pathDelay m_seenMany m_now m_far_9 r_2 r_3 e_3) (me_X12_laysFar hk.2.1) (mi_X12_laysFar hk.2.1) (ml_X12_194 hk.2.1) ((pmn 6 [0, 1, 2, 3, 4, 5] rfl rfl (by decide))) ((pmn 6 [0, 1, 2, 3, 4, 5] rfl rfl (by decide))) 0 rfl rfl rfl hl.1 rfl rfl (Nat.le_of_ble_eq_true rfl) ⟨rfl, rfl, Nat.le_of_ble_eq_true rfl, Nat.le_of_ble_eq_true rfl, Nat.zero_le _, Nat.zero_le _⟩ dX12_unseen_20 (fun H locs w => ?_)
        refine W.eq (g2 := F0 m 23 ls []) rfl ?_
        refine lv_iconst (v := 1) hx hb dX12_unseen_23 (by decide) ?_
        refine lv_istore (lv' := [(4, .int 1), (0, .ref a0), (1, .int x1_9), (2, .int r_1), (3, .int x3_9)]) hx hb dX12_unseen_24 hl (by decide) rfl (fun ls hl => ?_)
        refine lv_iconst (v := 0) hx hb dX12_unseen_26 (by decide) ?_
        refine lv_istore (lv' := [(5, .int 0), (4, .int 1), (0, .ref a0), (1, .int x1_9), (2, .int r_1), (3, .int x3_9)]) hx hb dX12_unseen_27 hl (by decide) rfl (fun ls hl => ?_)
        obtain ⟨T29, hT29, h⟩ := sat_reg h
        have E29 : ∀ (e4_6 : Int32) (H : Heap) (locs : List Loc) (ls : Array Slot), T29 e4_6 → wd D A s.heap H locs [(a0, .inr (12, [.int m_nodes, .int m_every, .int m_halves, .int m_age, .int m_life, .int m_first, .ref a1, .int m_undoMany, .int m_undoAt, .ref a2, .ref a3, .ref a4, .int m_letterMany, .ref a5, .int m_readAt, .int m_tokenAt, .int m_token, .int m_newNodes, .int m_newEvery, .int m_newHalves, .int m_newAge, .int m_newLife, .int m_newFirst, .int m_newLinks, .ref a6, .int m_pathMany, .int m_pathDelay, .ref a7, .ref a8, .int m_seenMany, .ref a9, .ref a10, .ref a11])), (a1, .inl (cI, 622, .inl m_now)), (a8, .inl (cI, 36, .inl r_3)), (a9, .inl (cI, 6, .inl m_seenFrom)), (a10, .inl (cI, 6, .inl m_seenTo)), (a11, .inl (cI, 6, .inl m_seen))] → lv_has ls 7 [(0, .ref a0), (1, .int x1_9), (2, .int r_1), (3, .int x3_9), (4, .int e4_6)] → W p l e rm_X12_unseen s m args below meth c H locs 0 0 Q (F0 m 99 ls []) := by
          intro e4_6 H locs ls h w hl
          have h := hT29 _ h
          refine lv_iload_n hx hb dX12_unseen_99 rfl (lv_at hl 1 rfl) ?_
          refine lv_iload hx hb dX12_unseen_100 (lv_at hl 4 rfl) ?_
          refine lv_if_eq (tgt := 111) hx hb dX12_unseen_102 (by decide) (fun c102 => ?_) (fun c102 => ?_)
          · have h := sat_t c102 h
            refine lv_iconst (v := 0) hx hb dX12_unseen_111 (by decide) ?_
            refine lv_ior hx hb dX12_unseen_112 ?_
            refine lv_istore_n (lv' := [(1, .int (x1_9 ||| 0)), (0, .ref a0), (2, .int r_1), (3, .int x3_9), (4, .int e4_6)]) hx hb dX12_unseen_113 rfl hl (by decide) rfl (fun ls hl => ?_)
            refine lv_iinc (v := x3_9 + 1) (lv' := [(3, .int (x3_9 + 1)), (1, .int (x1_9 ||| 0)), (0, .ref a0), (2, .int r_1), (4, .int e4_6)]) hx hb dX12_unseen_114 hl (k := 3) rfl (congrArg (fun z => x3_9 + z) (by decide)) (by decide) rfl (fun ls hl => ?_)
            refine lv_goto (tgt := 9) hx hb dX12_unseen_117 (by decide) ?_
            exact ih (x1_9 ||| 0) (x3_9 + 1) r_3 _ _ _ h w (lv_sub hl [2, 1, 3, 0] rfl)
          · have h := sat_f c102 h
            refine lv_iconst (v := 1) hx hb dX12_unseen_105 (by decide) ?_
            refine lv_iload_n hx hb dX12_unseen_106 rfl (lv_at hl 3 rfl) ?_
            refine lv_ishl hx hb dX12_unseen_107 ?_
            refine lv_goto (tgt := 112) hx hb dX12_unseen_108 (by decide) ?_
            refine lv_ior hx hb dX12_unseen_112 ?_
            refine lv_istore_n (lv' := [(1, .int (x1_9 ||| (1 <<< (x3_9 &&& 31)))), (0, .ref a0), (2, .int r_1), (3, .int x3_9), (4, .int e4_6)]) hx hb dX12_unseen_113 rfl hl (by decide) rfl (fun ls hl => ?_)
            refine lv_iinc (v := x3_9 + 1) (lv' := [(3, .int (x3_9 + 1)), (1, .int (x1_9 ||| (1 <<< (x3_9 &&& 31)))), (0, .ref a0), (2, .int r_1), (4, .int e4_6)]) hx hb dX12_unseen_114 hl (k := 3) rfl (congrArg (fun z => x3_9 + z) (by decide)) (by decide) rfl (fun ls hl => ?_)
            refine lv_goto (tgt := 9) hx hb dX12_unseen_117 (by decide) ?_
            exact ih (x1_9 ||| (1 <<< (x3_9 &&& 31))) (x3_9 + 1) r_3 _ _ _ h w (lv_sub hl [2, 1, 3, 0] rfl)
        have L29 : ∀ (n : Nat) (x4_29 : Int32) (x5_29 : Int32) (H : Heap) (locs : List Loc) (ls : Array Slot), sat (f_X12_unseen_L29 m_seenMany m_seenFrom m_seenTo m_seen r_3 n x4_29 x5_29) T29 → wd D A s.heap H locs [(a0, .inr (12, [.int m_nodes, .int m_every, .int m_halves, .int m_age, .int m_life, .int m_first, .ref a1, .int m_undoMany, .int m_undoAt, .ref a2, .ref a3, .ref a4, .int m_letterMany, .ref a5, .int m_readAt, .int m_tokenAt, .int m_token, .int m_newNodes, .int m_newEvery, .int m_newHalves, .int m_newAge, .int m_newLife, .int m_newFirst, .int m_newLinks, .ref a6, .int m_pathMany, .int m_pathDelay, .ref a7, .ref a8, .int m_seenMany, .ref a9, .ref a10, .ref a11])), (a1, .inl (cI, 622, .inl m_now)), (a8, .inl (cI, 36, .inl r_3)), (a9, .inl (cI, 6, .inl m_seenFrom)), (a10, .inl (cI, 6, .inl m_seenTo)), (a11, .inl (cI, 6, .inl m_seen))] → lv_has ls 7 [(0, .ref a0), (1, .int x1_9), (2, .int r_1), (3, .int x3_9), (4, .int x4_29), (5, .int x5_29)] → W p l e rm_X12_unseen s m args below meth c H locs 0 0 Q (F0 m 29 ls []) := by
          intro n
          induction n with
          | zero =>
            intro x4_29 x5_29 H locs ls h
            rw [f_X12_unseen_L29] at h
            exact (sat_none h).elim
          | succ n ih =>
            intro x4_29 x5_29 H locs ls h w hl
            rw [f_X12_unseen_L29] at h
            refine lv_iload hx hb dX12_unseen_29 (lv_at hl 5 rfl) ?_
            refine lv_aload_n hx hb dX12_unseen_31 rfl (lv_at hl 0 rfl) ?_
            refine gf_X12_132 hx hb hown hk w.1 0 rfl rfl dX12_unseen_32 ?_
            refine lv_icmp_ge (tgt := 99) hx hb dX12_unseen_35 (by decide) (fun c35 => ?_) (fun c35 => ?_)
            · have h := sat_t c35 h
              exact E29 x4_29 _ _ _ (sat_some h) w (lv_sub hl [0, 1, 2, 3, 4] rfl)
            · have h := sat_f c35 h
              refine lv_aload_n hx hb dX12_unseen_38 rfl (lv_at hl 0 rfl) ?_
              refine lv_aload_n hx hb dX12_unseen_39 rfl (lv_at hl 0 rfl) ?_
              refine gf_X12_45 hx hb hown hk w.1 0 rfl rfl dX12_unseen_40 ?_
              refine lv_iload hx hb dX12_unseen_43 (lv_at hl 5 rfl) ?_
              obtain ⟨hi, h⟩ := sat_in h
              refine va_iald hx hb hk.1 w.1 3 0 rfl rfl hi dX12_unseen_45 ?_
              refine lv_aload_n hx hb dX12_unseen_46 rfl (lv_at hl 0 rfl) ?_
              refine gf_X12_48 hx hb hown hk w.1 0 rfl rfl dX12_unseen_47 ?_
              refine lv_iload hx hb dX12_unseen_50 (lv_at hl 5 rfl) ?_
              obtain ⟨hi, h⟩ := sat_in h
              refine va_iald hx hb hk.1 w.1 4 0 rfl rfl hi dX12_unseen_52 ?_
              obtain ⟨r_4, e_4, h⟩ := sat_bind h
              refine cRV (rest := []) hx hb hml hown hk (k_X12_farOf l D cI cZ cK a0 a1 a2 a3 a4 a5 a6 a7 a8 a9 a10 a11 m_nodes m_every m_halves m_age m_life m_first m_undoMany m_undoAt m_letterMany m_readAt m_tokenAt m_token m_newNodes m_newEvery m_newHalves m_newAge m_newLife m_newFirst m_newLinks m_pathMany m_pathDelay m_seenMany r_3 (m_seenFrom x5_29.toNatClampNeg) (m_seenTo x5_29.toNatClampNeg) r_4 e_4) (me_X12_farOf hk.2.1) (mi_X12_farOf hk.2.1) (ml_X12_198 hk.2.1) (w.1.sub [0, 2] rfl) 0 rfl rfl rfl hl.1 rfl rfl (Nat.le_of_ble_eq_true rfl) ⟨rfl, rfl, Nat.le_of_ble_eq_true rfl, Nat.le_of_ble_eq_true rfl, Nat.zero_le _, Nat.zero_le _⟩ dX12_unseen_53 ?_
              refine lv_istore (lv' := [(6, .int r_4), (0, .ref a0), (1, .int x1_9), (2, .int r_1), (3, .int x3_9), (4, .int x4_29), (5, .int x5_29)]) hx hb dX12_unseen_56 hl (by decide) rfl (fun ls hl => ?_)
              refine lv_iload hx hb dX12_unseen_58 (lv_at hl 5 rfl) ?_
              refine lv_if_eq (tgt := 90) hx hb dX12_unseen_60 (by decide) (fun c60 => ?_) (fun c60 => ?_)
              · have h := sat_t c60 h
                refine lv_iconst (v := 0) hx hb dX12_unseen_90 (by decide) ?_
                refine lv_istore (lv' := [(4, .int 0), (6, .int r_4), (0, .ref a0), (1, .int x1_9), (2, .int r_1), (3, .int x3_9), (5, .int x5_29)]) hx hb dX12_unseen_91 hl (by decide) rfl (fun ls hl => ?_)
                refine lv_iinc (v := x5_29 + 1) (lv' := [(5, .int (x5_29 + 1)), (4, .int 0), (6, .int r_4), (0, .ref a0), (1, .int x1_9), (2, .int r_1), (3, .int x3_9)]) hx hb dX12_unseen_93 hl (k := 6) rfl (congrArg (fun z => x5_29 + z) (by decide)) (by decide) rfl (fun ls hl => ?_)
                refine lv_goto (tgt := 29) hx hb dX12_unseen_96 (by decide) ?_
                exact ih 0 (x5_29 + 1) _ _ _ h w (lv_sub hl [3, 4, 5, 6, 1, 0] rfl)
              · have h := sat_f c60 h
                refine lv_aload_n hx hb dX12_unseen_63 rfl (lv_at hl 1 rfl) ?_
                refine gf_X12_51 hx hb hown hk w.1 0 rfl rfl dX12_unseen_64 ?_
                refine lv_iload hx hb dX12_unseen_67 (lv_at hl 6 rfl) ?_
                obtain ⟨hi, h⟩ := sat_in h
                refine va_iald hx hb hk.1 w.1 5 0 rfl rfl hi dX12_unseen_69 ?_
                refine lv_iload hx hb dX12_unseen_70 (lv_at hl 0 rfl) ?_
                refine lv_bipush (v := (-9)) hx hb dX12_unseen_72 (by decide) ?_
                obtain ⟨T74, hT74, h⟩ := sat_reg h
                have J74 : ∀ (j_5 : Int32) (H : Heap) (locs : List Loc) (ls : Array Slot), T74 j_5 → wd D A s.heap H locs [(a0, .inr (12, [.int m_nodes, .int m_every, .int m_halves, .int m_age, .int m_life, .int m_first, .ref a1, .int m_undoMany, .int m_undoAt, .ref a2, .ref a3, .ref a4, .int m_letterMany, .ref a5, .int m_readAt, .int m_tokenAt, .int m_token, .int m_newNodes, .int m_newEvery, .int m_newHalves, .int m_newAge, .int m_newLife, .int m_newFirst, .int m_newLinks, .ref a6, .int m_pathMany, .int m_pathDelay, .ref a7, .ref a8, .int m_seenMany, .ref a9, .ref a10, .ref a11])), (a1, .inl (cI, 622, .inl m_now)), (a8, .inl (cI, 36, .inl r_3)), (a9, .inl (cI, 6, .inl m_seenFrom)), (a10, .inl (cI, 6, .inl m_seenTo)), (a11, .inl (cI, 6, .inl m_seen))] → lv_has ls 7 [(0, .ref a0), (1, .int x1_9), (2, .int r_1), (3, .int x3_9), (5, .int x5_29)] → W p l e rm_X12_unseen s m args below meth c H locs 0 0 Q (F0 m 83 ls [.int j_5, .int (m_seen x5_29.toNatClampNeg)]) := by
                  intro j_5 H locs ls h w hl
                  have h := hT74 _ h
                  refine lv_icmp_ne (tgt := 90) hx hb dX12_unseen_83 (by decide) (fun c83 => ?_) (fun c83 => ?_)
                  · have h := sat_f c83 h
                    refine lv_iconst (v := 0) hx hb dX12_unseen_90 (by decide) ?_
                    refine lv_istore (lv' := [(4, .int 0), (0, .ref a0), (1, .int x1_9), (2, .int r_1), (3, .int x3_9), (5, .int x5_29)]) hx hb dX12_unseen_91 hl (by decide) rfl (fun ls hl => ?_)
                    refine lv_iinc (v := x5_29 + 1) (lv' := [(5, .int (x5_29 + 1)), (4, .int 0), (0, .ref a0), (1, .int x1_9), (2, .int r_1), (3, .int x3_9)]) hx hb dX12_unseen_93 hl (k := 5) rfl (congrArg (fun z => x5_29 + z) (by decide)) (by decide) rfl (fun ls hl => ?_)
                    refine lv_goto (tgt := 29) hx hb dX12_unseen_96 (by decide) ?_
                    exact ih 0 (x5_29 + 1) _ _ _ h w (lv_sub hl [2, 3, 4, 5, 1, 0] rfl)
                  · have h := sat_t c83 h
                    refine lv_iconst (v := 1) hx hb dX12_unseen_86 (by decide) ?_
                    refine lv_goto (tgt := 91) hx hb dX12_unseen_87 (by decide) ?_
                    refine lv_istore (lv' := [(4, .int 1), (0, .ref a0), (1, .int x1_9), (2, .int r_1), (3, .int x3_9), (5, .int x5_29)]) hx hb dX12_unseen_91 hl (by decide) rfl (fun ls hl => ?_)
                    refine lv_iinc (v := x5_29 + 1) (lv' := [(5, .int (x5_29 + 1)), (4, .int 1), (0, .ref a0), (1, .int x1_9), (2, .int r_1), (3, .int x3_9)]) hx hb dX12_unseen_93 hl (k := 5) rfl (congrArg (fun z => x5_29 + z) (by decide)) (by decide) rfl (fun ls hl => ?_)
                    refine lv_goto (tgt := 29) hx hb dX12_unseen_96 (by decide) ?_
                    exact ih 1 (x5_29 + 1) _ _ _ h w (lv_sub hl [2, 3, 4, 5, 1, 0] rfl)
                refine lv_icmp_ne (tgt := 81) hx hb dX12_unseen_74 (by decide) (fun c74 => ?_) (fun c74 => ?_)
                · have h := sat_f c74 h
                  refine lv_iload hx hb dX12_unseen_81 (lv_at hl 0 rfl) ?_
                  exact J74 r_4 _ _ _ (sat_some h) w (lv_sub hl [1, 2, 3, 4, 6] rfl)
                · have h := sat_t c74 h
                  refine lv_iconst (v := 0) hx hb dX12_unseen_77 (by decide) ?_
                  refine lv_goto (tgt := 83) hx hb dX12_unseen_78 (by decide) ?_
                  exact J74 0 _ _ _ (sat_some h) w (lv_sub hl [1, 2, 3, 4, 6] rfl)
        exact L29 N 1 0 _ _ _ h w (lv_sub hl [2, 3, 4, 5, 1, 0] rfl)
  exact L9 N 0 0 m_far _ _ _ h w (lv_sub hl [3, 2, 1, 0] rfl)
def f_X12_keep_L20 (m_now : ar) (x1 : Int32) : Nat → Int32 → ar → Option (ar)
  | 0, _, _ => none
  | n + 1, x2_20, m_kept_20 => if 622 ≤ x2_20 then some m_kept_20 else ck (inb x2_20 622) (ck (inb ((622 * x1) + x2_20) 1244) (f_X12_keep_L20 m_now x1 n (x2_20 + 1) (upd m_kept_20 ((622 * x1) + x2_20).toNatClampNeg (m_now x2_20.toNatClampNeg))))
def f_X12_keep (N : Nat) (m_now : ar) (m_isKept : ar) (m_kept : ar) (x1 : Int32) : Option (Int32 × ar × ar) := Option.bind (f_X12_in x1 0 1) fun r_1 => if (b2i r_1) = 0 then some ((-1), m_isKept, m_kept) else ck (inb x1 2) (Option.bind (f_X12_keep_L20 m_now x1 N 0 m_kept) fun s20 => Option.bind (f_X12_linkMany N m_now) fun r_3 => some (r_3, upd m_isKept x1.toNatClampNeg 1, s20))
abbrev rm_X12_keep : Room := { frames := 1, cells := 0, slots := 0, locals := 22 }
set_option maxRecDepth 100000 in
set_option maxHeartbeats 4000000 in
theorem k_X12_keep (l : Launch) (D : va_G) (cI cZ cK : ClassId) (N : Nat) (a0 a1 a2 a3 a4 a5 a6 a7 a8 a9 a10 a11 : Nat) (m_nodes : Int32) (m_every : Int32) (m_halves : Int32) (m_age : Int32) (m_life : Int32) (m_first : Int32) (m_undoMany : Int32) (m_undoAt : Int32) (m_letterMany : Int32) (m_readAt : Int32) (m_tokenAt : Int32) (m_token : Int32) (m_newNodes : Int32) (m_newEvery : Int32) (m_newHalves : Int32) (m_newAge : Int32) (m_newLife : Int32) (m_newFirst : Int32) (m_newLinks : Int32) (m_pathMany : Int32) (m_pathDelay : Int32) (m_seenMany : Int32) (m_now : ar) (m_isKept : ar) (m_kept : ar) (x1 : Int32) (R : Int32 × ar × ar) (h : f_X12_keep N m_now m_isKept m_kept x1 = some R) : Mu l D cI cZ cK yX12_keep cX12_keep 3 (some .int) rm_X12_keep [.ref a0, .int x1] [(a0, .inr (12, [.int m_nodes, .int m_every, .int m_halves, .int m_age, .int m_life, .int m_first, .ref a1, .int m_undoMany, .int m_undoAt, .ref a2, .ref a3, .ref a4, .int m_letterMany, .ref a5, .int m_readAt, .int m_tokenAt, .int m_token, .int m_newNodes, .int m_newEvery, .int m_newHalves, .int m_newAge, .int m_newLife, .int m_newFirst, .int m_newLinks, .ref a6, .int m_pathMany, .int m_pathDelay, .ref a7, .ref a8, .int m_seenMany, .ref a9, .ref a10, .ref a11])), (a1, .inl (cI, 622, .inl m_now)), (a3, .inl (cZ, 2, .inl m_isKept)), (a4, .inl (cI, 1244, .inl m_kept))] (some (.int R.1)) [(a0, .inr (12, [.int m_nodes, .int m_every, .int m_halves, .int m_age, .int m_life, .int m_first, .ref a1, .int m_undoMany, .int m_undoAt, .ref a2, .ref a3, .ref a4, .int m_letterMany, .ref a5, .int m_readAt, .int m_tokenAt, .int m_token, .int m_newNodes, .int m_newEvery, .int m_newHalves, .int m_newAge, .int m_newLife, .int m_newFirst, .int m_newLinks, .ref a6, .int m_pathMany, .int m_pathDelay, .ref a7, .ref a8, .int m_seenMany, .ref a9, .ref a10, .ref a11])), (a1, .inl (cI, 622, .inl m_now)), (a3, .inl (cZ, 2, .inl R.2.1)), (a4, .inl (cI, 1244, .inl R.2.2))] := by
  refine mi_of (by decide) (vp_nar_int _) (Nat.le_of_ble_eq_true rfl) ?_
  intro p e s m args below meth c Q A ls hx hb hml hown hk hA w hret hl
  have hl : lv_has ls 3 [(0, .ref a0), (1, .int x1)] := hl
  obtain ⟨C0, hC0, h⟩ := sat_top h
  unfold f_X12_keep at h
  refine lv_iload_n hx hb dX12_keep_0 rfl (lv_at hl 1 rfl) ?_
  refine lv_iconst (v := 0) hx hb dX12_keep_1 (by decide) ?_
  refine lv_iconst (v := 1) hx hb dX12_keep_2 (by decide) ?_
  obtain ⟨r_1, e_1, h⟩ := sat_bind h
  refine cRS (rest := []) hx hb hml hown hk (k_X12_in l D cI cZ cK x1 0 1 r_1 e_1) (me_X12_in hk.2.1) (ms_X12_in hk.2.1) (ml_X12_58 hk.2.1) (w.1.sub [] rfl) hl.1 rfl rfl (Nat.le_of_ble_eq_true rfl) ⟨rfl, rfl, Nat.le_of_ble_eq_true rfl, Nat.le_of_ble_eq_true rfl, Nat.zero_le _, Nat.zero_le _⟩ dX12_keep_3 ?_
  refine lv_if_ne (tgt := 11) hx hb dX12_keep_6 (by decide) (fun c6 => ?_) (fun c6 => ?_)
  · have h := sat_f c6 h
    refine lv_aload_n hx hb dX12_keep_11 rfl (lv_at hl 0 rfl) ?_
    refine gf_X12_26 hx hb hown hk w.1 0 rfl rfl dX12_keep_12 ?_
    refine lv_iload_n hx hb dX12_keep_15 rfl (lv_at hl 1 rfl) ?_
    refine lv_iconst (v := 1) hx hb dX12_keep_16 (by decide) ?_
    obtain ⟨hi, h⟩ := sat_in h
    refine ra_zst (ws' := [(a0, .inr (12, [.int m_nodes, .int m_every, .int m_halves, .int m_age, .int m_life, .int m_first, .ref a1, .int m_undoMany, .int m_undoAt, .ref a2, .ref a3, .ref a4, .int m_letterMany, .ref a5, .int m_readAt, .int m_tokenAt, .int m_token, .int m_newNodes, .int m_newEvery, .int m_newHalves, .int m_newAge, .int m_newLife, .int m_newFirst, .int m_newLinks, .ref a6, .int m_pathMany, .int m_pathDelay, .ref a7, .ref a8, .int m_seenMany, .ref a9, .ref a10, .ref a11])), (a1, .inl (cI, 622, .inl m_now)), (a3, .inl (cZ, 2, .inl (upd m_isKept x1.toNatClampNeg 1))), (a4, .inl (cI, 1244, .inl m_kept))]) hx hb hk w 2 rfl hi (by decide) rfl dX12_keep_17 (fun H locs w => ?_)
    refine lv_iconst (v := 0) hx hb dX12_keep_18 (by decide) ?_
    refine lv_istore_n (lv' := [(2, .int 0), (0, .ref a0), (1, .int x1)]) hx hb dX12_keep_19 rfl hl (by decide) rfl (fun ls hl => ?_)
    obtain ⟨T20, hT20, h⟩ := sat_reg h
    have E20 : ∀ (m_kept_2 : ar) (H : Heap) (locs : List Loc) (ls : Array Slot), T20 m_kept_2 → wd D A s.heap H locs [(a0, .inr (12, [.int m_nodes, .int m_every, .int m_halves, .int m_age, .int m_life, .int m_first, .ref a1, .int m_undoMany, .int m_undoAt, .ref a2, .ref a3, .ref a4, .int m_letterMany, .ref a5, .int m_readAt, .int m_tokenAt, .int m_token, .int m_newNodes, .int m_newEvery, .int m_newHalves, .int m_newAge, .int m_newLife, .int m_newFirst, .int m_newLinks, .ref a6, .int m_pathMany, .int m_pathDelay, .ref a7, .ref a8, .int m_seenMany, .ref a9, .ref a10, .ref a11])), (a1, .inl (cI, 622, .inl m_now)), (a3, .inl (cZ, 2, .inl (upd m_isKept x1.toNatClampNeg 1))), (a4, .inl (cI, 1244, .inl m_kept_2))] → lv_has ls 3 [(0, .ref a0)] → W p l e rm_X12_keep s m args below meth c H locs 0 0 Q (F0 m 51 ls []) := by
      intro m_kept_2 H locs ls h w hl
      have h := hT20 _ h
      refine lv_aload_n hx hb dX12_keep_51 rfl (lv_at hl 0 rfl) ?_
      obtain ⟨r_3, e_3, h⟩ := sat_bind h
      refine cRV (rest := []) hx hb hml hown hk (k_X12_linkMany l D cI cZ cK N a0 a1 a2 a3 a4 a5 a6 a7 a8 a9 a10 a11 m_nodes m_every m_halves m_age m_life m_first m_undoMany m_undoAt m_letterMany m_readAt m_tokenAt m_token m_newNodes m_newEvery m_newHalves m_newAge m_newLife m_newFirst m_newLinks m_pathMany m_pathDelay m_seenMany m_now r_3 e_3) (me_X12_linkMany hk.2.1) (mi_X12_linkMany hk.2.1) (ml_X12_175 hk.2.1) (w.1.sub [0, 1] rfl) 0 rfl rfl rfl hl.1 rfl rfl (Nat.le_of_ble_eq_true rfl) ⟨rfl, rfl, Nat.le_of_ble_eq_true rfl, Nat.le_of_ble_eq_true rfl, Nat.zero_le _, Nat.zero_le _⟩ dX12_keep_52 ?_
      have hR := hC0 _ (sat_some h)
      subst hR
      exact hret _ _ _ _ w dX12_keep_55
    have L20 : ∀ (n : Nat) (x2_20 : Int32) (m_kept_20 : ar) (H : Heap) (locs : List Loc) (ls : Array Slot), sat (f_X12_keep_L20 m_now x1 n x2_20 m_kept_20) T20 → wd D A s.heap H locs [(a0, .inr (12, [.int m_nodes, .int m_every, .int m_halves, .int m_age, .int m_life, .int m_first, .ref a1, .int m_undoMany, .int m_undoAt, .ref a2, .ref a3, .ref a4, .int m_letterMany, .ref a5, .int m_readAt, .int m_tokenAt, .int m_token, .int m_newNodes, .int m_newEvery, .int m_newHalves, .int m_newAge, .int m_newLife, .int m_newFirst, .int m_newLinks, .ref a6, .int m_pathMany, .int m_pathDelay, .ref a7, .ref a8, .int m_seenMany, .ref a9, .ref a10, .ref a11])), (a1, .inl (cI, 622, .inl m_now)), (a3, .inl (cZ, 2, .inl (upd m_isKept x1.toNatClampNeg 1))), (a4, .inl (cI, 1244, .inl m_kept_20))] → lv_has ls 3 [(0, .ref a0), (1, .int x1), (2, .int x2_20)] → W p l e rm_X12_keep s m args below meth c H locs 0 0 Q (F0 m 20 ls []) := by
      intro n
      induction n with
      | zero =>
        intro x2_20 m_kept_20 H locs ls h
        rw [f_X12_keep_L20] at h
        exact (sat_none h).elim
      | succ n ih =>
        intro x2_20 m_kept_20 H locs ls h w hl
        rw [f_X12_keep_L20] at h
        refine lv_iload_n hx hb dX12_keep_20 rfl (lv_at hl 2 rfl) ?_
        refine lv_sipush (v := 622) hx hb dX12_keep_21 (by decide) ?_
        refine lv_icmp_ge (tgt := 51) hx hb dX12_keep_24 (by decide) (fun c24 => ?_) (fun c24 => ?_)
        · have h := sat_t c24 h
          exact E20 m_kept_20 _ _ _ (sat_some h) w (lv_sub hl [0] rfl)
        · have h := sat_f c24 h
          refine lv_aload_n hx hb dX12_keep_27 rfl (lv_at hl 0 rfl) ?_
          refine gf_X12_30 hx hb hown hk w.1 0 rfl rfl dX12_keep_28 ?_
          refine lv_sipush (v := 622) hx hb dX12_keep_31 (by decide) ?_
          refine lv_iload_n hx hb dX12_keep_34 rfl (lv_at hl 1 rfl) ?_
          refine lv_imul hx hb dX12_keep_35 ?_
          refine lv_iload_n hx hb dX12_keep_36 rfl (lv_at hl 2 rfl) ?_
          refine lv_iadd hx hb dX12_keep_37 ?_
          refine lv_aload_n hx hb dX12_keep_38 rfl (lv_at hl 0 rfl) ?_
          refine gf_X12_19 hx hb hown hk w.1 0 rfl rfl dX12_keep_39 ?_
          refine lv_iload_n hx hb dX12_keep_42 rfl (lv_at hl 2 rfl) ?_
          obtain ⟨hi, h⟩ := sat_in h
          refine va_iald hx hb hk.1 w.1 1 0 rfl rfl hi dX12_keep_43 ?_
          obtain ⟨hi, h⟩ := sat_in h
          refine ra_ist (ws' := [(a0, .inr (12, [.int m_nodes, .int m_every, .int m_halves, .int m_age, .int m_life, .int m_first, .ref a1, .int m_undoMany, .int m_undoAt, .ref a2, .ref a3, .ref a4, .int m_letterMany, .ref a5, .int m_readAt, .int m_tokenAt, .int m_token, .int m_newNodes, .int m_newEvery, .int m_newHalves, .int m_newAge, .int m_newLife, .int m_newFirst, .int m_newLinks, .ref a6, .int m_pathMany, .int m_pathDelay, .ref a7, .ref a8, .int m_seenMany, .ref a9, .ref a10, .ref a11])), (a1, .inl (cI, 622, .inl m_now)), (a3, .inl (cZ, 2, .inl (upd m_isKept x1.toNatClampNeg 1))), (a4, .inl (cI, 1244, .inl (upd m_kept_20 ((622 * x1) + x2_20).toNatClampNeg (m_now x2_20.toNatClampNeg))))]) hx hb hk w 3 rfl hi rfl dX12_keep_44 (fun H locs w => ?_)
          refine lv_iinc (v := x2_20 + 1) (lv' := [(2, .int (x2_20 + 1)), (0, .ref a0), (1, .int x1)]) hx hb dX12_keep_45 hl (k := 2) rfl (congrArg (fun z => x2_20 + z) (by decide)) (by decide) rfl (fun ls hl => ?_)
          refine lv_goto (tgt := 20) hx hb dX12_keep_48 (by decide) ?_
          exact ih (x2_20 + 1) (upd m_kept_20 ((622 * x1) + x2_20).toNatClampNeg (m_now x2_20.toNatClampNeg)) _ _ _ h w (lv_sub hl [1, 2, 0] rfl)
    exact L20 N 0 m_kept _ _ _ h w (lv_sub hl [1, 2, 0] rfl)
  · have h := sat_t c6 h
    refine lv_iconst (v := (-1)) hx hb dX12_keep_9 (by decide) ?_
    have hR := hC0 _ (sat_some h)
    subst hR
    exact hret _ _ _ _ w dX12_keep_10
def f_X12_back_L25 (m_kept : ar) (x1 : Int32) : Nat → Int32 → ar → Option (ar)
  | 0, _, _ => none
  | n + 1, x2_25, m_now_25 => if 622 ≤ x2_25 then some m_now_25 else ck (inb ((622 * x1) + x2_25) 1244) (ck (inb x2_25 622) (f_X12_back_L25 m_kept x1 n (x2_25 + 1) (upd m_now_25 x2_25.toNatClampNeg (m_kept ((622 * x1) + x2_25).toNatClampNeg))))
def f_X12_back (N : Nat) (m_now : ar) (m_undoMany : Int32) (m_isKept : ar) (m_kept : ar) (x1 : Int32) : Option (Int32 × Int32 × ar) := Option.bind (f_X12_in x1 0 1) fun r_1 => if (b2i r_1) = 0 then some ((-1), m_undoMany, m_now) else ck (inb x1 2) (if (m_isKept x1.toNatClampNeg) = 0 then some ((-2), m_undoMany, m_now) else Option.bind (f_X12_back_L25 m_kept x1 N 0 m_now) fun s25 => Option.bind (f_X12_linkMany N s25) fun r_3 => some (r_3, 0, s25))
abbrev rm_X12_back : Room := { frames := 1, cells := 0, slots := 0, locals := 22 }
set_option maxRecDepth 100000 in
set_option maxHeartbeats 4000000 in
theorem k_X12_back (l : Launch) (D : va_G) (cI cZ cK : ClassId) (N : Nat) (a0 a1 a2 a3 a4 a5 a6 a7 a8 a9 a10 a11 : Nat) (m_nodes : Int32) (m_every : Int32) (m_halves : Int32) (m_age : Int32) (m_life : Int32) (m_first : Int32) (m_undoMany : Int32) (m_undoAt : Int32) (m_letterMany : Int32) (m_readAt : Int32) (m_tokenAt : Int32) (m_token : Int32) (m_newNodes : Int32) (m_newEvery : Int32) (m_newHalves : Int32) (m_newAge : Int32) (m_newLife : Int32) (m_newFirst : Int32) (m_newLinks : Int32) (m_pathMany : Int32) (m_pathDelay : Int32) (m_seenMany : Int32) (m_now : ar) (m_isKept : ar) (m_kept : ar) (x1 : Int32) (R : Int32 × Int32 × ar) (h : f_X12_back N m_now m_undoMany m_isKept m_kept x1 = some R) : Mu l D cI cZ cK yX12_back cX12_back 3 (some .int) rm_X12_back [.ref a0, .int x1] [(a0, .inr (12, [.int m_nodes, .int m_every, .int m_halves, .int m_age, .int m_life, .int m_first, .ref a1, .int m_undoMany, .int m_undoAt, .ref a2, .ref a3, .ref a4, .int m_letterMany, .ref a5, .int m_readAt, .int m_tokenAt, .int m_token, .int m_newNodes, .int m_newEvery, .int m_newHalves, .int m_newAge, .int m_newLife, .int m_newFirst, .int m_newLinks, .ref a6, .int m_pathMany, .int m_pathDelay, .ref a7, .ref a8, .int m_seenMany, .ref a9, .ref a10, .ref a11])), (a1, .inl (cI, 622, .inl m_now)), (a3, .inl (cZ, 2, .inl m_isKept)), (a4, .inl (cI, 1244, .inl m_kept))] (some (.int R.1)) [(a0, .inr (12, [.int m_nodes, .int m_every, .int m_halves, .int m_age, .int m_life, .int m_first, .ref a1, .int R.2.1, .int m_undoAt, .ref a2, .ref a3, .ref a4, .int m_letterMany, .ref a5, .int m_readAt, .int m_tokenAt, .int m_token, .int m_newNodes, .int m_newEvery, .int m_newHalves, .int m_newAge, .int m_newLife, .int m_newFirst, .int m_newLinks, .ref a6, .int m_pathMany, .int m_pathDelay, .ref a7, .ref a8, .int m_seenMany, .ref a9, .ref a10, .ref a11])), (a1, .inl (cI, 622, .inl R.2.2)), (a3, .inl (cZ, 2, .inl m_isKept)), (a4, .inl (cI, 1244, .inl m_kept))] := by
  refine mi_of (by decide) (vp_nar_int _) (Nat.le_of_ble_eq_true rfl) ?_
  intro p e s m args below meth c Q A ls hx hb hml hown hk hA w hret hl
  have hl : lv_has ls 3 [(0, .ref a0), (1, .int x1)] := hl
  obtain ⟨C0, hC0, h⟩ := sat_top h
  unfold f_X12_back at h
  refine lv_iload_n hx hb dX12_back_0 rfl (lv_at hl 1 rfl) ?_
  refine lv_iconst (v := 0) hx hb dX12_back_1 (by decide) ?_
  refine lv_iconst (v := 1) hx hb dX12_back_2 (by decide) ?_
  obtain ⟨r_1, e_1, h⟩ := sat_bind h
  refine cRS (rest := []) hx hb hml hown hk (k_X12_in l D cI cZ cK x1 0 1 r_1 e_1) (me_X12_in hk.2.1) (ms_X12_in hk.2.1) (ml_X12_58 hk.2.1) (w.1.sub [] rfl) hl.1 rfl rfl (Nat.le_of_ble_eq_true rfl) ⟨rfl, rfl, Nat.le_of_ble_eq_true rfl, Nat.le_of_ble_eq_true rfl, Nat.zero_le _, Nat.zero_le _⟩ dX12_back_3 ?_
  refine lv_if_ne (tgt := 11) hx hb dX12_back_6 (by decide) (fun c6 => ?_) (fun c6 => ?_)
  · have h := sat_f c6 h
    refine lv_aload_n hx hb dX12_back_11 rfl (lv_at hl 0 rfl) ?_
    refine gf_X12_26 hx hb hown hk w.1 0 rfl rfl dX12_back_12 ?_
    refine lv_iload_n hx hb dX12_back_15 rfl (lv_at hl 1 rfl) ?_
    obtain ⟨hi, h⟩ := sat_in h
    refine va_zald hx hb hk.1 w.1 2 1 rfl rfl hi dX12_back_16 ?_
    refine lv_if_ne (tgt := 23) hx hb dX12_back_17 (by decide) (fun c17 => ?_) (fun c17 => ?_)
    · have h := sat_f c17 h
      refine lv_iconst (v := 0) hx hb dX12_back_23 (by decide) ?_
      refine lv_istore_n (lv' := [(2, .int 0), (0, .ref a0), (1, .int x1)]) hx hb dX12_back_24 rfl hl (by decide) rfl (fun ls hl => ?_)
      obtain ⟨T25, hT25, h⟩ := sat_reg h
      have E25 : ∀ (m_now_2 : ar) (H : Heap) (locs : List Loc) (ls : Array Slot), T25 m_now_2 → wd D A s.heap H locs [(a0, .inr (12, [.int m_nodes, .int m_every, .int m_halves, .int m_age, .int m_life, .int m_first, .ref a1, .int m_undoMany, .int m_undoAt, .ref a2, .ref a3, .ref a4, .int m_letterMany, .ref a5, .int m_readAt, .int m_tokenAt, .int m_token, .int m_newNodes, .int m_newEvery, .int m_newHalves, .int m_newAge, .int m_newLife, .int m_newFirst, .int m_newLinks, .ref a6, .int m_pathMany, .int m_pathDelay, .ref a7, .ref a8, .int m_seenMany, .ref a9, .ref a10, .ref a11])), (a1, .inl (cI, 622, .inl m_now_2)), (a3, .inl (cZ, 2, .inl m_isKept)), (a4, .inl (cI, 1244, .inl m_kept))] → lv_has ls 3 [(0, .ref a0)] → W p l e rm_X12_back s m args below meth c H locs 0 0 Q (F0 m 56 ls []) := by
        intro m_now_2 H locs ls h w hl
        have h := hT25 _ h
        refine lv_aload_n hx hb dX12_back_56 rfl (lv_at hl 0 rfl) ?_
        refine lv_iconst (v := 0) hx hb dX12_back_57 (by decide) ?_
        refine pf_X12_129 (ws' := [(a0, .inr (12, [.int m_nodes, .int m_every, .int m_halves, .int m_age, .int m_life, .int m_first, .ref a1, .int 0, .int m_undoAt, .ref a2, .ref a3, .ref a4, .int m_letterMany, .ref a5, .int m_readAt, .int m_tokenAt, .int m_token, .int m_newNodes, .int m_newEvery, .int m_newHalves, .int m_newAge, .int m_newLife, .int m_newFirst, .int m_newLinks, .ref a6, .int m_pathMany, .int m_pathDelay, .ref a7, .ref a8, .int m_seenMany, .ref a9, .ref a10, .ref a11])), (a1, .inl (cI, 622, .inl m_now_2)), (a3, .inl (cZ, 2, .inl m_isKept)), (a4, .inl (cI, 1244, .inl m_kept))]) hx hb hown hk w 0 rfl (Nat.le_of_ble_eq_true rfl) rfl dX12_back_58 (fun H locs w => ?_)
        refine lv_aload_n hx hb dX12_back_61 rfl (lv_at hl 0 rfl) ?_
        obtain ⟨r_3, e_3, h⟩ := sat_bind h
        refine cRV (rest := []) hx hb hml hown hk (k_X12_linkMany l D cI cZ cK N a0 a1 a2 a3 a4 a5 a6 a7 a8 a9 a10 a11 m_nodes m_every m_halves m_age m_life m_first 0 m_undoAt m_letterMany m_readAt m_tokenAt m_token m_newNodes m_newEvery m_newHalves m_newAge m_newLife m_newFirst m_newLinks m_pathMany m_pathDelay m_seenMany m_now_2 r_3 e_3) (me_X12_linkMany hk.2.1) (mi_X12_linkMany hk.2.1) (ml_X12_175 hk.2.1) (w.1.sub [0, 1] rfl) 0 rfl rfl rfl hl.1 rfl rfl (Nat.le_of_ble_eq_true rfl) ⟨rfl, rfl, Nat.le_of_ble_eq_true rfl, Nat.le_of_ble_eq_true rfl, Nat.zero_le _, Nat.zero_le _⟩ dX12_back_62 ?_
        have hR := hC0 _ (sat_some h)
        subst hR
        exact hret _ _ _ _ w dX12_back_65
      have L25 : ∀ (n : Nat) (x2_25 : Int32) (m_now_25 : ar) (H : Heap) (locs : List Loc) (ls : Array Slot), sat (f_X12_back_L25 m_kept x1 n x2_25 m_now_25) T25 → wd D A s.heap H locs [(a0, .inr (12, [.int m_nodes, .int m_every, .int m_halves, .int m_age, .int m_life, .int m_first, .ref a1, .int m_undoMany, .int m_undoAt, .ref a2, .ref a3, .ref a4, .int m_letterMany, .ref a5, .int m_readAt, .int m_tokenAt, .int m_token, .int m_newNodes, .int m_newEvery, .int m_newHalves, .int m_newAge, .int m_newLife, .int m_newFirst, .int m_newLinks, .ref a6, .int m_pathMany, .int m_pathDelay, .ref a7, .ref a8, .int m_seenMany, .ref a9, .ref a10, .ref a11])), (a1, .inl (cI, 622, .inl m_now_25)), (a3, .inl (cZ, 2, .inl m_isKept)), (a4, .inl (cI, 1244, .inl m_kept))] → lv_has ls 3 [(0, .ref a0), (1, .int x1), (2, .int x2_25)] → W p l e rm_X12_back s m args below meth c H locs 0 0 Q (F0 m 25 ls []) := by
        intro n
        induction n with
        | zero =>
          intro x2_25 m_now_25 H locs ls h
          rw [f_X12_back_L25] at h
          exact (sat_none h).elim
        | succ n ih =>
          intro x2_25 m_now_25 H locs ls h w hl
          rw [f_X12_back_L25] at h
          refine lv_iload_n hx hb dX12_back_25 rfl (lv_at hl 2 rfl) ?_
          refine lv_sipush (v := 622) hx hb dX12_back_26 (by decide) ?_
          refine lv_icmp_ge (tgt := 56) hx hb dX12_back_29 (by decide) (fun c29 => ?_) (fun c29 => ?_)
          · have h := sat_t c29 h
            exact E25 m_now_25 _ _ _ (sat_some h) w (lv_sub hl [0] rfl)
          · have h := sat_f c29 h
            refine lv_aload_n hx hb dX12_back_32 rfl (lv_at hl 0 rfl) ?_
            refine gf_X12_19 hx hb hown hk w.1 0 rfl rfl dX12_back_33 ?_
            refine lv_iload_n hx hb dX12_back_36 rfl (lv_at hl 2 rfl) ?_
            refine lv_aload_n hx hb dX12_back_37 rfl (lv_at hl 0 rfl) ?_
            refine gf_X12_30 hx hb hown hk w.1 0 rfl rfl dX12_back_38 ?_
            refine lv_sipush (v := 622) hx hb dX12_back_41 (by decide) ?_
            refine lv_iload_n hx hb dX12_back_44 rfl (lv_at hl 1 rfl) ?_
            refine lv_imul hx hb dX12_back_45 ?_
            refine lv_iload_n hx hb dX12_back_46 rfl (lv_at hl 2 rfl) ?_
            refine lv_iadd hx hb dX12_back_47 ?_
            obtain ⟨hi, h⟩ := sat_in h
            refine va_iald hx hb hk.1 w.1 3 0 rfl rfl hi dX12_back_48 ?_
            obtain ⟨hi, h⟩ := sat_in h
            refine ra_ist (ws' := [(a0, .inr (12, [.int m_nodes, .int m_every, .int m_halves, .int m_age, .int m_life, .int m_first, .ref a1, .int m_undoMany, .int m_undoAt, .ref a2, .ref a3, .ref a4, .int m_letterMany, .ref a5, .int m_readAt, .int m_tokenAt, .int m_token, .int m_newNodes, .int m_newEvery, .int m_newHalves, .int m_newAge, .int m_newLife, .int m_newFirst, .int m_newLinks, .ref a6, .int m_pathMany, .int m_pathDelay, .ref a7, .ref a8, .int m_seenMany, .ref a9, .ref a10, .ref a11])), (a1, .inl (cI, 622, .inl (upd m_now_25 x2_25.toNatClampNeg (m_kept ((622 * x1) + x2_25).toNatClampNeg)))), (a3, .inl (cZ, 2, .inl m_isKept)), (a4, .inl (cI, 1244, .inl m_kept))]) hx hb hk w 1 rfl hi rfl dX12_back_49 (fun H locs w => ?_)
            refine lv_iinc (v := x2_25 + 1) (lv' := [(2, .int (x2_25 + 1)), (0, .ref a0), (1, .int x1)]) hx hb dX12_back_50 hl (k := 2) rfl (congrArg (fun z => x2_25 + z) (by decide)) (by decide) rfl (fun ls hl => ?_)
            refine lv_goto (tgt := 25) hx hb dX12_back_53 (by decide) ?_
            exact ih (x2_25 + 1) (upd m_now_25 x2_25.toNatClampNeg (m_kept ((622 * x1) + x2_25).toNatClampNeg)) _ _ _ h w (lv_sub hl [1, 2, 0] rfl)
      exact L25 N 0 m_now _ _ _ h w (lv_sub hl [1, 2, 0] rfl)
    · have h := sat_t c17 h
      refine lv_bipush (v := (-2)) hx hb dX12_back_20 (by decide) ?_
      have hR := hC0 _ (sat_some h)
      subst hR
      exact hret _ _ _ _ w dX12_back_22
  · have h := sat_t c6 h
    refine lv_iconst (v := (-1)) hx hb dX12_back_9 (by decide) ?_
    have hR := hC0 _ (sat_some h)
    subst hR
    exact hret _ _ _ _ w dX12_back_10
def f_X12_count (N : Nat) (m_nodes : Int32) (m_every : Int32) (m_halves : Int32) (m_age : Int32) (m_life : Int32) (m_first : Int32) (m_now : ar) (m_undoMany : Int32) (m_letterMany : Int32) (m_seenMany : Int32) (x1 : Int32) : Option (Int32) := if x1 = 0 then some m_nodes else if x1 = 1 then Option.bind (f_X12_linkMany N m_now) fun r_1 => some r_1 else if x1 = 2 then some m_every else if x1 = 3 then some m_halves else if x1 = 4 then some m_age else if x1 = 5 then some m_life else if x1 = 6 then some m_first else if x1 = 7 then ck (inb 0 622) (some (m_now (0 : Int32).toNatClampNeg)) else if x1 = 8 then some m_seenMany else if x1 = 9 then some m_letterMany else if x1 = 10 then some m_undoMany else some (-1)
abbrev rm_X12_count : Room := { frames := 1, cells := 0, slots := 0, locals := 22 }
set_option maxRecDepth 100000 in
set_option maxHeartbeats 4000000 in
theorem k_X12_count (l : Launch) (D : va_G) (cI cZ cK : ClassId) (N : Nat) (a0 a1 a2 a3 a4 a5 a6 a7 a8 a9 a10 a11 : Nat) (m_nodes : Int32) (m_every : Int32) (m_halves : Int32) (m_age : Int32) (m_life : Int32) (m_first : Int32) (m_undoMany : Int32) (m_undoAt : Int32) (m_letterMany : Int32) (m_readAt : Int32) (m_tokenAt : Int32) (m_token : Int32) (m_newNodes : Int32) (m_newEvery : Int32) (m_newHalves : Int32) (m_newAge : Int32) (m_newLife : Int32) (m_newFirst : Int32) (m_newLinks : Int32) (m_pathMany : Int32) (m_pathDelay : Int32) (m_seenMany : Int32) (m_now : ar) (x1 : Int32) (R : Int32) (h : f_X12_count N m_nodes m_every m_halves m_age m_life m_first m_now m_undoMany m_letterMany m_seenMany x1 = some R) : Rd l D cI cZ cK yX12_count cX12_count 2 (some .int) rm_X12_count [.ref a0, .int x1] [(a0, .inr (12, [.int m_nodes, .int m_every, .int m_halves, .int m_age, .int m_life, .int m_first, .ref a1, .int m_undoMany, .int m_undoAt, .ref a2, .ref a3, .ref a4, .int m_letterMany, .ref a5, .int m_readAt, .int m_tokenAt, .int m_token, .int m_newNodes, .int m_newEvery, .int m_newHalves, .int m_newAge, .int m_newLife, .int m_newFirst, .int m_newLinks, .ref a6, .int m_pathMany, .int m_pathDelay, .ref a7, .ref a8, .int m_seenMany, .ref a9, .ref a10, .ref a11])), (a1, .inl (cI, 622, .inl m_now))] R := by
  refine rd_of (by decide) (vp_nar_int _) (Nat.le_of_ble_eq_true rfl) ?_
  intro p e s m args below meth c Q ls hx hb hml hown hk hP hret hl
  have hl : lv_has ls 2 [(0, .ref a0), (1, .int x1)] := hl
  obtain ⟨C0, hC0, h⟩ := sat_top h
  unfold f_X12_count at h
  refine lv_iload_n hx hb dX12_count_0 rfl (lv_at hl 1 rfl) ?_
  by_cases c1_0 : x1 = 0
  · have h := sat_t c1_0 h
    refine lv_tableIn (off := 59) (tgt := 60) hx hb dX12_count_1 (by rw [c1_0]; decide) (by rw [c1_0]; decide) (by rw [c1_0]; decide) (by decide) ?_
    refine lv_aload_n hx hb dX12_count_60 rfl (lv_at hl 0 rfl) ?_
    refine gf_X12_7 hx hb hown hk hP 0 rfl rfl dX12_count_61 ?_
    have hR := hC0 _ (sat_some h)
    subst hR
    exact hret _ _ dX12_count_64
  have h := sat_f c1_0 h
  have nc1_0 := ne_ti (z := 0) c1_0 (by decide)
  by_cases c1_1 : x1 = 1
  · have h := sat_t c1_1 h
    refine lv_tableIn (off := 64) (tgt := 65) hx hb dX12_count_1 (by rw [c1_1]; decide) (by rw [c1_1]; decide) (by rw [c1_1]; decide) (by decide) ?_
    refine lv_aload_n hx hb dX12_count_65 rfl (lv_at hl 0 rfl) ?_
    obtain ⟨r_1, e_1, h⟩ := sat_bind h
    refine cRV (rest := []) hx hb hml hown hk (k_X12_linkMany l D cI cZ cK N a0 a1 a2 a3 a4 a5 a6 a7 a8 a9 a10 a11 m_nodes m_every m_halves m_age m_life m_first m_undoMany m_undoAt m_letterMany m_readAt m_tokenAt m_token m_newNodes m_newEvery m_newHalves m_newAge m_newLife m_newFirst m_newLinks m_pathMany m_pathDelay m_seenMany m_now r_1 e_1) (me_X12_linkMany hk.2.1) (mi_X12_linkMany hk.2.1) (ml_X12_175 hk.2.1) (hP.sub [0, 1] rfl) 0 rfl rfl rfl hl.1 rfl rfl (Nat.le_of_ble_eq_true rfl) ⟨rfl, rfl, Nat.le_of_ble_eq_true rfl, Nat.le_of_ble_eq_true rfl, Nat.zero_le _, Nat.zero_le _⟩ dX12_count_66 ?_
    have hR := hC0 _ (sat_some h)
    subst hR
    exact hret _ _ dX12_count_69
  have h := sat_f c1_1 h
  have nc1_1 := ne_ti (z := 1) c1_1 (by decide)
  by_cases c1_2 : x1 = 2
  · have h := sat_t c1_2 h
    refine lv_tableIn (off := 69) (tgt := 70) hx hb dX12_count_1 (by rw [c1_2]; decide) (by rw [c1_2]; decide) (by rw [c1_2]; decide) (by decide) ?_
    refine lv_aload_n hx hb dX12_count_70 rfl (lv_at hl 0 rfl) ?_
    refine gf_X12_120 hx hb hown hk hP 0 rfl rfl dX12_count_71 ?_
    have hR := hC0 _ (sat_some h)
    subst hR
    exact hret _ _ dX12_count_74
  have h := sat_f c1_2 h
  have nc1_2 := ne_ti (z := 2) c1_2 (by decide)
  by_cases c1_3 : x1 = 3
  · have h := sat_t c1_3 h
    refine lv_tableIn (off := 74) (tgt := 75) hx hb dX12_count_1 (by rw [c1_3]; decide) (by rw [c1_3]; decide) (by rw [c1_3]; decide) (by decide) ?_
    refine lv_aload_n hx hb dX12_count_75 rfl (lv_at hl 0 rfl) ?_
    refine gf_X12_123 hx hb hown hk hP 0 rfl rfl dX12_count_76 ?_
    have hR := hC0 _ (sat_some h)
    subst hR
    exact hret _ _ dX12_count_79
  have h := sat_f c1_3 h
  have nc1_3 := ne_ti (z := 3) c1_3 (by decide)
  by_cases c1_4 : x1 = 4
  · have h := sat_t c1_4 h
    refine lv_tableIn (off := 79) (tgt := 80) hx hb dX12_count_1 (by rw [c1_4]; decide) (by rw [c1_4]; decide) (by rw [c1_4]; decide) (by decide) ?_
    refine lv_aload_n hx hb dX12_count_80 rfl (lv_at hl 0 rfl) ?_
    refine gf_X12_13 hx hb hown hk hP 0 rfl rfl dX12_count_81 ?_
    have hR := hC0 _ (sat_some h)
    subst hR
    exact hret _ _ dX12_count_84
  have h := sat_f c1_4 h
  have nc1_4 := ne_ti (z := 4) c1_4 (by decide)
  by_cases c1_5 : x1 = 5
  · have h := sat_t c1_5 h
    refine lv_tableIn (off := 84) (tgt := 85) hx hb dX12_count_1 (by rw [c1_5]; decide) (by rw [c1_5]; decide) (by rw [c1_5]; decide) (by decide) ?_
    refine lv_aload_n hx hb dX12_count_85 rfl (lv_at hl 0 rfl) ?_
    refine gf_X12_16 hx hb hown hk hP 0 rfl rfl dX12_count_86 ?_
    have hR := hC0 _ (sat_some h)
    subst hR
    exact hret _ _ dX12_count_89
  have h := sat_f c1_5 h
  have nc1_5 := ne_ti (z := 5) c1_5 (by decide)
  by_cases c1_6 : x1 = 6
  · have h := sat_t c1_6 h
    refine lv_tableIn (off := 89) (tgt := 90) hx hb dX12_count_1 (by rw [c1_6]; decide) (by rw [c1_6]; decide) (by rw [c1_6]; decide) (by decide) ?_
    refine lv_aload_n hx hb dX12_count_90 rfl (lv_at hl 0 rfl) ?_
    refine gf_X12_126 hx hb hown hk hP 0 rfl rfl dX12_count_91 ?_
    have hR := hC0 _ (sat_some h)
    subst hR
    exact hret _ _ dX12_count_94
  have h := sat_f c1_6 h
  have nc1_6 := ne_ti (z := 6) c1_6 (by decide)
  by_cases c1_7 : x1 = 7
  · have h := sat_t c1_7 h
    refine lv_tableIn (off := 94) (tgt := 95) hx hb dX12_count_1 (by rw [c1_7]; decide) (by rw [c1_7]; decide) (by rw [c1_7]; decide) (by decide) ?_
    refine lv_aload_n hx hb dX12_count_95 rfl (lv_at hl 0 rfl) ?_
    refine gf_X12_19 hx hb hown hk hP 0 rfl rfl dX12_count_96 ?_
    refine lv_iconst (v := 0) hx hb dX12_count_99 (by decide) ?_
    obtain ⟨hi, h⟩ := sat_in h
    refine va_iald hx hb hk.1 hP 1 0 rfl rfl hi dX12_count_100 ?_
    have hR := hC0 _ (sat_some h)
    subst hR
    exact hret _ _ dX12_count_101
  have h := sat_f c1_7 h
  have nc1_7 := ne_ti (z := 7) c1_7 (by decide)
  by_cases c1_8 : x1 = 8
  · have h := sat_t c1_8 h
    refine lv_tableIn (off := 101) (tgt := 102) hx hb dX12_count_1 (by rw [c1_8]; decide) (by rw [c1_8]; decide) (by rw [c1_8]; decide) (by decide) ?_
    refine lv_aload_n hx hb dX12_count_102 rfl (lv_at hl 0 rfl) ?_
    refine gf_X12_132 hx hb hown hk hP 0 rfl rfl dX12_count_103 ?_
    have hR := hC0 _ (sat_some h)
    subst hR
    exact hret _ _ dX12_count_106
  have h := sat_f c1_8 h
  have nc1_8 := ne_ti (z := 8) c1_8 (by decide)
  by_cases c1_9 : x1 = 9
  · have h := sat_t c1_9 h
    refine lv_tableIn (off := 106) (tgt := 107) hx hb dX12_count_1 (by rw [c1_9]; decide) (by rw [c1_9]; decide) (by rw [c1_9]; decide) (by decide) ?_
    refine lv_aload_n hx hb dX12_count_107 rfl (lv_at hl 0 rfl) ?_
    refine gf_X12_66 hx hb hown hk hP 0 rfl rfl dX12_count_108 ?_
    have hR := hC0 _ (sat_some h)
    subst hR
    exact hret _ _ dX12_count_111
  have h := sat_f c1_9 h
  have nc1_9 := ne_ti (z := 9) c1_9 (by decide)
  by_cases c1_10 : x1 = 10
  · have h := sat_t c1_10 h
    refine lv_tableIn (off := 111) (tgt := 112) hx hb dX12_count_1 (by rw [c1_10]; decide) (by rw [c1_10]; decide) (by rw [c1_10]; decide) (by decide) ?_
    refine lv_aload_n hx hb dX12_count_112 rfl (lv_at hl 0 rfl) ?_
    refine gf_X12_129 hx hb hown hk hP 0 rfl rfl dX12_count_113 ?_
    have hR := hC0 _ (sat_some h)
    subst hR
    exact hret _ _ dX12_count_116
  have h := sat_f c1_10 h
  have nc1_10 := ne_ti (z := 10) c1_10 (by decide)
  refine lv_tableOut (tgt := 117) hx hb dX12_count_1 (by omega) (by decide) ?_
  refine lv_iconst (v := (-1)) hx hb dX12_count_117 (by decide) ?_
  have hR := hC0 _ (sat_some h)
  subst hR
  exact hret _ _ dX12_count_118
