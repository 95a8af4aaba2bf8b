def f_X12_in (x0 : Int32) (x1 : Int32) (x2 : Int32) : Option (Bool) := if x0 < x1 then some false else if x2 < x0 then some false else some true
abbrev rm_X12_in : Room := { frames := 0, cells := 0, slots := 0, locals := 0 }
set_option maxRecDepth 100000 in
set_option maxHeartbeats 4000000 in
theorem k_X12_in (l : Launch) (D : va_G) (cI cZ cK : ClassId) (x0 : Int32) (x1 : Int32) (x2 : Int32) (R : Bool) (h : f_X12_in x0 x1 x2 = some R) : Rd l D cI cZ cK yX12_in cX12_in 3 (some .boolean) rm_X12_in [.int x0, .int x1, .int x2] [] (b2i R) := by
  refine rd_of (by decide) (nar_b _) (Nat.le_of_ble_eq_true rfl) ?_
  intro p e s m args below meth c Q ls hx hb hml hown hk hP hret hl
  have hl : lv_has ls 3 [(0, .int x0), (1, .int x1), (2, .int x2)] := hl
  obtain ⟨C0, hC0, h⟩ := sat_top h
  unfold f_X12_in at h
  refine lv_iload_n hx hb dX12_in_0 rfl (lv_at hl 0 rfl) ?_
  refine lv_iload_n hx hb dX12_in_1 rfl (lv_at hl 1 rfl) ?_
  refine lv_icmp_lt (tgt := 14) hx hb dX12_in_2 (by decide) (fun c2 => ?_) (fun c2 => ?_)
  · have h := sat_t c2 h
    refine lv_iconst (v := 0) hx hb dX12_in_14 (by decide) ?_
    have hR := hC0 _ (sat_some h)
    subst hR
    exact hret _ _ dX12_in_15
  · have h := sat_f c2 h
    refine lv_iload_n hx hb dX12_in_5 rfl (lv_at hl 0 rfl) ?_
    refine lv_iload_n hx hb dX12_in_6 rfl (lv_at hl 2 rfl) ?_
    refine lv_icmp_gt (tgt := 14) hx hb dX12_in_7 (by decide) (fun c7 => ?_) (fun c7 => ?_)
    · have h := sat_t c7 h
      refine lv_iconst (v := 0) hx hb dX12_in_14 (by decide) ?_
      have hR := hC0 _ (sat_some h)
      subst hR
      exact hret _ _ dX12_in_15
    · have h := sat_f c7 h
      refine lv_iconst (v := 1) hx hb dX12_in_10 (by decide) ?_
      refine lv_goto (tgt := 15) hx hb dX12_in_11 (by decide) ?_
      have hR := hC0 _ (sat_some h)
      subst hR
      exact hret _ _ dX12_in_15
def f_X12_has (x0 : Int32) (x1 : Int32) : Option (Bool) := if ((x0 >>> (x1 &&& 31)) &&& 1) = 1 then some true else some false
abbrev rm_X12_has : Room := { frames := 0, cells := 0, slots := 0, locals := 0 }
set_option maxRecDepth 100000 in
set_option maxHeartbeats 4000000 in
theorem k_X12_has (l : Launch) (D : va_G) (cI cZ cK : ClassId) (x0 : Int32) (x1 : Int32) (R : Bool) (h : f_X12_has x0 x1 = some R) : Rd l D cI cZ cK yX12_has cX12_has 2 (some .boolean) rm_X12_has [.int x0, .int x1] [] (b2i R) := by
  refine rd_of (by decide) (nar_b _) (Nat.le_of_ble_eq_true rfl) ?_
  intro p e s m args below meth c Q ls hx hb hml hown hk hP hret hl
  have hl : lv_has ls 2 [(0, .int x0), (1, .int x1)] := hl
  obtain ⟨C0, hC0, h⟩ := sat_top h
  unfold f_X12_has at h
  refine lv_iload_n hx hb dX12_has_0 rfl (lv_at hl 0 rfl) ?_
  refine lv_iload_n hx hb dX12_has_1 rfl (lv_at hl 1 rfl) ?_
  refine lv_ishr hx hb dX12_has_2 ?_
  refine lv_iconst (v := 1) hx hb dX12_has_3 (by decide) ?_
  refine lv_iand hx hb dX12_has_4 ?_
  refine lv_iconst (v := 1) hx hb dX12_has_5 (by decide) ?_
  refine lv_icmp_ne (tgt := 13) hx hb dX12_has_6 (by decide) (fun c6 => ?_) (fun c6 => ?_)
  · have h := sat_f c6 h
    refine lv_iconst (v := 0) hx hb dX12_has_13 (by decide) ?_
    have hR := hC0 _ (sat_some h)
    subst hR
    exact hret _ _ dX12_has_14
  · have h := sat_t c6 h
    refine lv_iconst (v := 1) hx hb dX12_has_9 (by decide) ?_
    refine lv_goto (tgt := 14) hx hb dX12_has_10 (by decide) ?_
    have hR := hC0 _ (sat_some h)
    subst hR
    exact hret _ _ dX12_has_14
def f_X12_isNode (m_nodes : Int32) (x1 : Int32) : Option (Bool) := Option.bind (f_X12_in x1 0 (m_nodes - 1)) fun r_1 => some r_1
abbrev rm_X12_isNode : Room := { frames := 1, cells := 0, slots := 0, locals := 22 }
set_option maxRecDepth 100000 in
set_option maxHeartbeats 4000000 in
theorem k_X12_isNode (l : Launch) (D : va_G) (cI cZ cK : ClassId) (a0 a1 a2 a3 a4 a5 a6 a7 a8 a9 a10 a11 : Nat) (m_nodes : Int32) (m_every : Int32) (m_halves : Int32) (m_age : Int32) (m_life : Int32) (m_first : Int32) (m_undoMany : Int32) (m_undoAt : Int32) (m_letterMany : Int32) (m_readAt : Int32) (m_tokenAt : Int32) (m_token : Int32) (m_newNodes : Int32) (m_newEvery : Int32) (m_newHalves : Int32) (m_newAge : Int32) (m_newLife : Int32) (m_newFirst : Int32) (m_newLinks : Int32) (m_pathMany : Int32) (m_pathDelay : Int32) (m_seenMany : Int32) (x1 : Int32) (R : Bool) (h : f_X12_isNode m_nodes x1 = some R) : Rd l D cI cZ cK yX12_isNode cX12_isNode 2 (some .boolean) rm_X12_isNode [.ref a0, .int x1] [(a0, .inr (12, [.int m_nodes, .int m_every, .int m_halves, .int m_age, .int m_life, .int m_first, .ref a1, .int m_undoMany, .int m_undoAt, .ref a2, .ref a3, .ref a4, .int m_letterMany, .ref a5, .int m_readAt, .int m_tokenAt, .int m_token, .int m_newNodes, .int m_newEvery, .int m_newHalves, .int m_newAge, .int m_newLife, .int m_newFirst, .int m_newLinks, .ref a6, .int m_pathMany, .int m_pathDelay, .ref a7, .ref a8, .int m_seenMany, .ref a9, .ref a10, .ref a11]))] (b2i R) := by
  refine rd_of (by decide) (nar_b _) (Nat.le_of_ble_eq_true rfl) ?_
  intro p e s m args below meth c Q ls hx hb hml hown hk hP hret hl
  have hl : lv_has ls 2 [(0, .ref a0), (1, .int x1)] := hl
  obtain ⟨C0, hC0, h⟩ := sat_top h
  unfold f_X12_isNode at h
  refine lv_iload_n hx hb dX12_isNode_0 rfl (lv_at hl 1 rfl) ?_
  refine lv_iconst (v := 0) hx hb dX12_isNode_1 (by decide) ?_
  refine lv_aload_n hx hb dX12_isNode_2 rfl (lv_at hl 0 rfl) ?_
  refine gf_X12_7 hx hb hown hk hP 0 rfl rfl dX12_isNode_3 ?_
  refine lv_iconst (v := 1) hx hb dX12_isNode_6 (by decide) ?_
  refine lv_isub hx hb dX12_isNode_7 ?_
  obtain ⟨r_1, e_1, h⟩ := sat_bind h
  refine cRS (rest := []) hx hb hml hown hk (k_X12_in l D cI cZ cK x1 0 (m_nodes - 1) r_1 e_1) (me_X12_in hk.2.1) (ms_X12_in hk.2.1) (ml_X12_58 hk.2.1) (hP.sub [] rfl) hl.1 rfl rfl (Nat.le_of_ble_eq_true rfl) ⟨rfl, rfl, Nat.le_of_ble_eq_true rfl, Nat.le_of_ble_eq_true rfl, Nat.zero_le _, Nat.zero_le _⟩ dX12_isNode_8 ?_
  have hR := hC0 _ (sat_some h)
  subst hR
  exact hret _ _ dX12_isNode_11
def f_X12_pair (x0 : Int32) (x1 : Int32) : Option (Int32) := if x1 ≤ x0 then some ((6 * x1) + x0) else some ((6 * x0) + x1)
abbrev rm_X12_pair : Room := { frames := 0, cells := 0, slots := 0, locals := 0 }
set_option maxRecDepth 100000 in
set_option maxHeartbeats 4000000 in
theorem k_X12_pair (l : Launch) (D : va_G) (cI cZ cK : ClassId) (x0 : Int32) (x1 : Int32) (R : Int32) (h : f_X12_pair x0 x1 = some R) : Rd l D cI cZ cK yX12_pair cX12_pair 2 (some .int) rm_X12_pair [.int x0, .int x1] [] R := by
  refine rd_of (by decide) (vp_nar_int _) (Nat.le_of_ble_eq_true rfl) ?_
  intro p e s m args below meth c Q ls hx hb hml hown hk hP hret hl
  have hl : lv_has ls 2 [(0, .int x0), (1, .int x1)] := hl
  obtain ⟨C0, hC0, h⟩ := sat_top h
  unfold f_X12_pair at h
  refine lv_iload_n hx hb dX12_pair_0 rfl (lv_at hl 0 rfl) ?_
  refine lv_iload_n hx hb dX12_pair_1 rfl (lv_at hl 1 rfl) ?_
  refine lv_icmp_ge (tgt := 14) hx hb dX12_pair_2 (by decide) (fun c2 => ?_) (fun c2 => ?_)
  · have h := sat_t c2 h
    refine lv_bipush (v := 6) hx hb dX12_pair_14 (by decide) ?_
    refine lv_iload_n hx hb dX12_pair_16 rfl (lv_at hl 1 rfl) ?_
    refine lv_imul hx hb dX12_pair_17 ?_
    refine lv_iload_n hx hb dX12_pair_18 rfl (lv_at hl 0 rfl) ?_
    refine lv_iadd hx hb dX12_pair_19 ?_
    have hR := hC0 _ (sat_some h)
    subst hR
    exact hret _ _ dX12_pair_20
  · have h := sat_f c2 h
    refine lv_bipush (v := 6) hx hb dX12_pair_5 (by decide) ?_
    refine lv_iload_n hx hb dX12_pair_7 rfl (lv_at hl 0 rfl) ?_
    refine lv_imul hx hb dX12_pair_8 ?_
    refine lv_iload_n hx hb dX12_pair_9 rfl (lv_at hl 1 rfl) ?_
    refine lv_iadd hx hb dX12_pair_10 ?_
    refine lv_goto (tgt := 20) hx hb dX12_pair_11 (by decide) ?_
    have hR := hC0 _ (sat_some h)
    subst hR
    exact hret _ _ dX12_pair_20
def f_X12_delay (m_now : ar) (x1 : Int32) (x2 : Int32) : Option (Int32) := if x1 = x2 then some 0 else Option.bind (f_X12_pair x1 x2) fun r_1 => ck (inb (118 + r_1) 622) (some (m_now (118 + r_1).toNatClampNeg))
abbrev rm_X12_delay : Room := { frames := 1, cells := 0, slots := 0, locals := 21 }
set_option maxRecDepth 100000 in
set_option maxHeartbeats 4000000 in
theorem k_X12_delay (l : Launch) (D : va_G) (cI cZ cK : ClassId) (a0 a1 a2 a3 a4 a5 a6 a7 a8 a9 a10 a11 : Nat) (m_nodes : Int32) (m_every : Int32) (m_halves : Int32) (m_age : Int32) (m_life : Int32) (m_first : Int32) (m_undoMany : Int32) (m_undoAt : Int32) (m_letterMany : Int32) (m_readAt : Int32) (m_tokenAt : Int32) (m_token : Int32) (m_newNodes : Int32) (m_newEvery : Int32) (m_newHalves : Int32) (m_newAge : Int32) (m_newLife : Int32) (m_newFirst : Int32) (m_newLinks : Int32) (m_pathMany : Int32) (m_pathDelay : Int32) (m_seenMany : Int32) (m_now : ar) (x1 : Int32) (x2 : Int32) (R : Int32) (h : f_X12_delay m_now x1 x2 = some R) : Rd l D cI cZ cK yX12_delay cX12_delay 3 (some .int) rm_X12_delay [.ref a0, .int x1, .int x2] [(a0, .inr (12, [.int m_nodes, .int m_every, .int m_halves, .int m_age, .int m_life, .int m_first, .ref a1, .int m_undoMany, .int m_undoAt, .ref a2, .ref a3, .ref a4, .int m_letterMany, .ref a5, .int m_readAt, .int m_tokenAt, .int m_token, .int m_newNodes, .int m_newEvery, .int m_newHalves, .int m_newAge, .int m_newLife, .int m_newFirst, .int m_newLinks, .ref a6, .int m_pathMany, .int m_pathDelay, .ref a7, .ref a8, .int m_seenMany, .ref a9, .ref a10, .ref a11])), (a1, .inl (cI, 622, .inl m_now))] R := by
  refine rd_of (by decide) (vp_nar_int _) (Nat.le_of_ble_eq_true rfl) ?_
  intro p e s m args below meth c Q ls hx hb hml hown hk hP hret hl
  have hl : lv_has ls 3 [(0, .ref a0), (1, .int x1), (2, .int x2)] := hl
  obtain ⟨C0, hC0, h⟩ := sat_top h
  unfold f_X12_delay at h
  refine lv_iload_n hx hb dX12_delay_0 rfl (lv_at hl 1 rfl) ?_
  refine lv_iload_n hx hb dX12_delay_1 rfl (lv_at hl 2 rfl) ?_
  refine lv_icmp_ne (tgt := 9) hx hb dX12_delay_2 (by decide) (fun c2 => ?_) (fun c2 => ?_)
  · have h := sat_f c2 h
    refine lv_aload_n hx hb dX12_delay_9 rfl (lv_at hl 0 rfl) ?_
    refine gf_X12_19 hx hb hown hk hP 0 rfl rfl dX12_delay_10 ?_
    refine lv_bipush (v := 118) hx hb dX12_delay_13 (by decide) ?_
    refine lv_iload_n hx hb dX12_delay_15 rfl (lv_at hl 1 rfl) ?_
    refine lv_iload_n hx hb dX12_delay_16 rfl (lv_at hl 2 rfl) ?_
    obtain ⟨r_1, e_1, h⟩ := sat_bind h
    refine cRS (rest := [.int 118, .ref a1]) hx hb hml hown hk (k_X12_pair l D cI cZ cK x1 x2 r_1 e_1) (me_X12_pair hk.2.1) (ms_X12_pair hk.2.1) (ml_X12_62 hk.2.1) (hP.sub [] rfl) hl.1 rfl rfl (Nat.le_of_ble_eq_true rfl) ⟨rfl, rfl, Nat.le_of_ble_eq_true rfl, Nat.le_of_ble_eq_true rfl, Nat.zero_le _, Nat.zero_le _⟩ dX12_delay_17 ?_
    refine lv_iadd hx hb dX12_delay_20 ?_
    obtain ⟨hi, h⟩ := sat_in h
    refine va_iald hx hb hk.1 hP 1 0 rfl rfl hi dX12_delay_21 ?_
    have hR := hC0 _ (sat_some h)
    subst hR
    exact hret _ _ dX12_delay_22
  · have h := sat_t c2 h
    refine lv_iconst (v := 0) hx hb dX12_delay_5 (by decide) ?_
    refine lv_goto (tgt := 22) hx hb dX12_delay_6 (by decide) ?_
    have hR := hC0 _ (sat_some h)
    subst hR
    exact hret _ _ dX12_delay_22
def f_X12_guessAt (x0 : Int32) (x1 : Int32) (x2 : Int32) : Option (Int32) := some (((36 * x0) + (6 * x1)) + x2)
abbrev rm_X12_guessAt : Room := { frames := 0, cells := 0, slots := 0, locals := 0 }
set_option maxRecDepth 100000 in
set_option maxHeartbeats 4000000 in
theorem k_X12_guessAt (l : Launch) (D : va_G) (cI cZ cK : ClassId) (x0 : Int32) (x1 : Int32) (x2 : Int32) (R : Int32) (h : f_X12_guessAt x0 x1 x2 = some R) : Rd l D cI cZ cK yX12_guessAt cX12_guessAt 3 (some .int) rm_X12_guessAt [.int x0, .int x1, .int x2] [] R := by
  refine rd_of (by decide) (vp_nar_int _) (Nat.le_of_ble_eq_true rfl) ?_
  intro p e s m args below meth c Q ls hx hb hml hown hk hP hret hl
  have hl : lv_has ls 3 [(0, .int x0), (1, .int x1), (2, .int x2)] := hl
  obtain ⟨C0, hC0, h⟩ := sat_top h
  unfold f_X12_guessAt at h
  refine lv_bipush (v := 36) hx hb dX12_guessAt_0 (by decide) ?_
  refine lv_iload_n hx hb dX12_guessAt_2 rfl (lv_at hl 0 rfl) ?_
  refine lv_imul hx hb dX12_guessAt_3 ?_
  refine lv_bipush (v := 6) hx hb dX12_guessAt_4 (by decide) ?_
  refine lv_iload_n hx hb dX12_guessAt_6 rfl (lv_at hl 1 rfl) ?_
  refine lv_imul hx hb dX12_guessAt_7 ?_
  refine lv_iadd hx hb dX12_guessAt_8 ?_
  refine lv_iload_n hx hb dX12_guessAt_9 rfl (lv_at hl 2 rfl) ?_
  refine lv_iadd hx hb dX12_guessAt_10 ?_
  have hR := hC0 _ (sat_some h)
  subst hR
  exact hret _ _ dX12_guessAt_11
def f_X12_linkMany_L4 (m_now : ar) : Nat → Int32 → Int32 → Option (Int32)
  | 0, _, _ => none
  | n + 1, x1_4, x2_4 => if 36 ≤ x2_4 then some x1_4 else ck (inb (118 + x2_4) 622) (if (m_now (118 + x2_4).toNatClampNeg) ≤ 0 then f_X12_linkMany_L4 m_now n (x1_4 + 0) (x2_4 + 1) else f_X12_linkMany_L4 m_now n (x1_4 + 1) (x2_4 + 1))
def f_X12_linkMany (N : Nat) (m_now : ar) : Option (Int32) := Option.bind (f_X12_linkMany_L4 m_now N 0 0) fun s4 => some s4
abbrev rm_X12_linkMany : Room := { frames := 0, cells := 0, slots := 0, locals := 0 }
set_option maxRecDepth 100000 in
set_option maxHeartbeats 4000000 in
theorem k_X12_linkMany (l : Launch) (D : va_G) (cI cZ cK : ClassId) (N : Nat) (a0 a1 a2 a3 a4 a5 a6 a7 a8 a9 a10 a11 : Nat) (m_nodes : Int32) (m_every : Int32) (m_halves : Int32) (m_age : Int32) (m_life : Int32) (m_first : Int32) (m_undoMany : Int32) (m_undoAt : Int32) (m_letterMany : Int32) (m_readAt : Int32) (m_tokenAt : Int32) (m_token : Int32) (m_newNodes : Int32) (m_newEvery : Int32) (m_newHalves : Int32) (m_newAge : Int32) (m_newLife : Int32) (m_newFirst : Int32) (m_newLinks : Int32) (m_pathMany : Int32) (m_pathDelay : Int32) (m_seenMany : Int32) (m_now : ar) (R : Int32) (h : f_X12_linkMany N m_now = some R) : Rd l D cI cZ cK yX12_linkMany cX12_linkMany 3 (some .int) rm_X12_linkMany [.ref a0] [(a0, .inr (12, [.int m_nodes, .int m_every, .int m_halves, .int m_age, .int m_life, .int m_first, .ref a1, .int m_undoMany, .int m_undoAt, .ref a2, .ref a3, .ref a4, .int m_letterMany, .ref a5, .int m_readAt, .int m_tokenAt, .int m_token, .int m_newNodes, .int m_newEvery, .int m_newHalves, .int m_newAge, .int m_newLife, .int m_newFirst, .int m_newLinks, .ref a6, .int m_pathMany, .int m_pathDelay, .ref a7, .ref a8, .int m_seenMany, .ref a9, .ref a10, .ref a11])), (a1, .inl (cI, 622, .inl m_now))] R := by
  refine rd_of (by decide) (vp_nar_int _) (Nat.le_of_ble_eq_true rfl) ?_
  intro p e s m args below meth c Q ls hx hb hml hown hk hP hret hl
  have hl : lv_has ls 3 [(0, .ref a0)] := hl
  obtain ⟨C0, hC0, h⟩ := sat_top h
  unfold f_X12_linkMany at h
  refine lv_iconst (v := 0) hx hb dX12_linkMany_0 (by decide) ?_
  refine lv_istore_n (lv' := [(1, .int 0), (0, .ref a0)]) hx hb dX12_linkMany_1 rfl hl (by decide) rfl (fun ls hl => ?_)
  refine lv_iconst (v := 0) hx hb dX12_linkMany_2 (by decide) ?_
  refine lv_istore_n (lv' := [(2, .int 0), (1, .int 0), (0, .ref a0)]) hx hb dX12_linkMany_3 rfl hl (by decide) rfl (fun ls hl => ?_)
  obtain ⟨T4, hT4, h⟩ := sat_reg h
  have E4 : ∀ (e1_1 : Int32) (ls : Array Slot), T4 e1_1 → lv_has ls 3 [(1, .int e1_1)] → W p l e rm_X12_linkMany s m args below meth c s.heap [] 0 0 Q (F0 m 36 ls []) := by
    intro e1_1 ls h hl
    have h := hT4 _ h
    refine lv_iload_n hx hb dX12_linkMany_36 rfl (lv_at hl 0 rfl) ?_
    have hR := hC0 _ (sat_some h)
    subst hR
    exact hret _ _ dX12_linkMany_37
  have L4 : ∀ (n : Nat) (x1_4 : Int32) (x2_4 : Int32) (ls : Array Slot), sat (f_X12_linkMany_L4 m_now n x1_4 x2_4) T4 → lv_has ls 3 [(0, .ref a0), (1, .int x1_4), (2, .int x2_4)] → W p l e rm_X12_linkMany s m args below meth c s.heap [] 0 0 Q (F0 m 4 ls []) := by
    intro n
    induction n with
    | zero =>
      intro x1_4 x2_4 ls h
      rw [f_X12_linkMany_L4] at h
      exact (sat_none h).elim
    | succ n ih =>
      intro x1_4 x2_4 ls h hl
      rw [f_X12_linkMany_L4] at h
      refine lv_iload_n hx hb dX12_linkMany_4 rfl (lv_at hl 2 rfl) ?_
      refine lv_bipush (v := 36) hx hb dX12_linkMany_5 (by decide) ?_
      refine lv_icmp_ge (tgt := 36) hx hb dX12_linkMany_7 (by decide) (fun c7 => ?_) (fun c7 => ?_)
      · have h := sat_t c7 h
        exact E4 x1_4 _ (sat_some h) (lv_sub hl [1] rfl)
      · have h := sat_f c7 h
        refine lv_iload_n hx hb dX12_linkMany_10 rfl (lv_at hl 1 rfl) ?_
        refine lv_aload_n hx hb dX12_linkMany_11 rfl (lv_at hl 0 rfl) ?_
        refine gf_X12_19 hx hb hown hk hP 0 rfl rfl dX12_linkMany_12 ?_
        refine lv_bipush (v := 118) hx hb dX12_linkMany_15 (by decide) ?_
        refine lv_iload_n hx hb dX12_linkMany_17 rfl (lv_at hl 2 rfl) ?_
        refine lv_iadd hx hb dX12_linkMany_18 ?_
        obtain ⟨hi, h⟩ := sat_in h
        refine va_iald hx hb hk.1 hP 1 0 rfl rfl hi dX12_linkMany_19 ?_
        refine lv_if_le (tgt := 27) hx hb dX12_linkMany_20 (by decide) (fun c20 => ?_) (fun c20 => ?_)
        · have h := sat_t c20 h
          refine lv_iconst (v := 0) hx hb dX12_linkMany_27 (by decide) ?_
          refine lv_iadd hx hb dX12_linkMany_28 ?_
          refine lv_istore_n (lv' := [(1, .int (x1_4 + 0)), (0, .ref a0), (2, .int x2_4)]) hx hb dX12_linkMany_29 rfl hl (by decide) rfl (fun ls hl => ?_)
          refine lv_iinc (v := x2_4 + 1) (lv' := [(2, .int (x2_4 + 1)), (1, .int (x1_4 + 0)), (0, .ref a0)]) hx hb dX12_linkMany_30 hl (k := 2) rfl (congrArg (fun z => x2_4 + z) (by decide)) (by decide) rfl (fun ls hl => ?_)
          refine lv_goto (tgt := 4) hx hb dX12_linkMany_33 (by decide) ?_
          exact ih (x1_4 + 0) (x2_4 + 1) _ h (lv_sub hl [2, 1, 0] rfl)
        · have h := sat_f c20 h
          refine lv_iconst (v := 1) hx hb dX12_linkMany_23 (by decide) ?_
          refine lv_goto (tgt := 28) hx hb dX12_linkMany_24 (by decide) ?_
          refine lv_iadd hx hb dX12_linkMany_28 ?_
          refine lv_istore_n (lv' := [(1, .int (x1_4 + 1)), (0, .ref a0), (2, .int x2_4)]) hx hb dX12_linkMany_29 rfl hl (by decide) rfl (fun ls hl => ?_)
          refine lv_iinc (v := x2_4 + 1) (lv' := [(2, .int (x2_4 + 1)), (1, .int (x1_4 + 1)), (0, .ref a0)]) hx hb dX12_linkMany_30 hl (k := 2) rfl (congrArg (fun z => x2_4 + z) (by decide)) (by decide) rfl (fun ls hl => ?_)
          refine lv_goto (tgt := 4) hx hb dX12_linkMany_33 (by decide) ?_
          exact ih (x1_4 + 1) (x2_4 + 1) _ h (lv_sub hl [2, 1, 0] rfl)
  exact L4 N 0 0 _ h (lv_sub hl [2, 1, 0] rfl)
def f_X12_pairOf_L4 (m_now : ar) (x1 : Int32) : Nat → Int32 → Int32 → Option ((Int32) ⊕ (Unit))
  | 0, _, _ => none
  | n + 1, x2_4, x3_4 => if 36 ≤ x3_4 then some (.inr ()) else if x1 < 0 then some (.inr ()) else ck (inb (118 + x3_4) 622) (if (m_now (118 + x3_4).toNatClampNeg) ≤ 0 then f_X12_pairOf_L4 m_now x1 n x2_4 (x3_4 + 1) else if x2_4 = 0 then some (.inl x3_4) else f_X12_pairOf_L4 m_now x1 n (x2_4 + (-1)) (x3_4 + 1))
def f_X12_pairOf (N : Nat) (m_now : ar) (x1 : Int32) : Option (Int32) := lb (f_X12_pairOf_L4 m_now x1 N x1 0) fun s4 => some (-9)
abbrev rm_X12_pairOf : Room := { frames := 0, cells := 0, slots := 0, locals := 0 }
set_option maxRecDepth 100000 in
set_option maxHeartbeats 4000000 in
theorem k_X12_pairOf (l : Launch) (D : va_G) (cI cZ cK : ClassId) (N : Nat) (a0 a1 a2 a3 a4 a5 a6 a7 a8 a9 a10 a11 : Nat) (m_nodes : Int32) (m_every : Int32) (m_halves : Int32) (m_age : Int32) (m_life : Int32) (m_first : Int32) (m_undoMany : Int32) (m_undoAt : Int32) (m_letterMany : Int32) (m_readAt : Int32) (m_tokenAt : Int32) (m_token : Int32) (m_newNodes : Int32) (m_newEvery : Int32) (m_newHalves : Int32) (m_newAge : Int32) (m_newLife : Int32) (m_newFirst : Int32) (m_newLinks : Int32) (m_pathMany : Int32) (m_pathDelay : Int32) (m_seenMany : Int32) (m_now : ar) (x1 : Int32) (R : Int32) (h : f_X12_pairOf N m_now x1 = some R) : Rd l D cI cZ cK yX12_pairOf cX12_pairOf 4 (some .int) rm_X12_pairOf [.ref a0, .int x1] [(a0, .inr (12, [.int m_nodes, .int m_every, .int m_halves, .int m_age, .int m_life, .int m_first, .ref a1, .int m_undoMany, .int m_undoAt, .ref a2, .ref a3, .ref a4, .int m_letterMany, .ref a5, .int m_readAt, .int m_tokenAt, .int m_token, .int m_newNodes, .int m_newEvery, .int m_newHalves, .int m_newAge, .int m_newLife, .int m_newFirst, .int m_newLinks, .ref a6, .int m_pathMany, .int m_pathDelay, .ref a7, .ref a8, .int m_seenMany, .ref a9, .ref a10, .ref a11])), (a1, .inl (cI, 622, .inl m_now))] R := by
  refine rd_of (by decide) (vp_nar_int _) (Nat.le_of_ble_eq_true rfl) ?_
  intro p e s m args below meth c Q ls hx hb hml hown hk hP hret hl
  have hl : lv_has ls 4 [(0, .ref a0), (1, .int x1)] := hl
  obtain ⟨C0, hC0, h⟩ := sat_top h
  unfold f_X12_pairOf at h
  refine lv_iload_n hx hb dX12_pairOf_0 rfl (lv_at hl 1 rfl) ?_
  refine lv_istore_n (lv' := [(2, .int x1), (0, .ref a0), (1, .int x1)]) hx hb dX12_pairOf_1 rfl hl (by decide) rfl (fun ls hl => ?_)
  refine lv_iconst (v := 0) hx hb dX12_pairOf_2 (by decide) ?_
  refine lv_istore_n (lv' := [(3, .int 0), (2, .int x1), (0, .ref a0), (1, .int x1)]) hx hb dX12_pairOf_3 rfl hl (by decide) rfl (fun ls hl => ?_)
  obtain ⟨T4, hr4, hT4, h⟩ := sat_lbr h
  have E4 : ∀  (ls : Array Slot), T4 (.inr ()) → lv_has ls 4 [] → W p l e rm_X12_pairOf s m args below meth c s.heap [] 0 0 Q (F0 m 41 ls []) := by
    intro  ls h hl
    have h := hT4 _ h
    refine lv_bipush (v := (-9)) hx hb dX12_pairOf_41 (by decide) ?_
    have hR := hC0 _ (sat_some h)
    subst hR
    exact hret _ _ dX12_pairOf_43
  have L4 : ∀ (n : Nat) (x2_4 : Int32) (x3_4 : Int32) (ls : Array Slot), sat (f_X12_pairOf_L4 m_now x1 n x2_4 x3_4) T4 → lv_has ls 4 [(0, .ref a0), (1, .int x1), (2, .int x2_4), (3, .int x3_4)] → W p l e rm_X12_pairOf s m args below meth c s.heap [] 0 0 Q (F0 m 4 ls []) := by
    intro n
    induction n with
    | zero =>
      intro x2_4 x3_4 ls h
      rw [f_X12_pairOf_L4] at h
      exact (sat_none h).elim
    | succ n ih =>
      intro x2_4 x3_4 ls h hl
      rw [f_X12_pairOf_L4] at h
      refine lv_iload_n hx hb dX12_pairOf_4 rfl (lv_at hl 3 rfl) ?_
      refine lv_bipush (v := 36) hx hb dX12_pairOf_5 (by decide) ?_
      refine lv_icmp_ge (tgt := 41) hx hb dX12_pairOf_7 (by decide) (fun c7 => ?_) (fun c7 => ?_)
      · have h := sat_t c7 h
        exact E4  _ (sat_some h) (lv_sub hl [] rfl)
      · have h := sat_f c7 h
        refine lv_iload_n hx hb dX12_pairOf_10 rfl (lv_at hl 1 rfl) ?_
        refine lv_if_lt (tgt := 41) hx hb dX12_pairOf_11 (by decide) (fun c11 => ?_) (fun c11 => ?_)
        · have h := sat_t c11 h
          exact E4  _ (sat_some h) (lv_sub hl [] rfl)
        · have h := sat_f c11 h
          refine lv_aload_n hx hb dX12_pairOf_14 rfl (lv_at hl 0 rfl) ?_
          refine gf_X12_19 hx hb hown hk hP 0 rfl rfl dX12_pairOf_15 ?_
          refine lv_bipush (v := 118) hx hb dX12_pairOf_18 (by decide) ?_
          refine lv_iload_n hx hb dX12_pairOf_20 rfl (lv_at hl 3 rfl) ?_
          refine lv_iadd hx hb dX12_pairOf_21 ?_
          obtain ⟨hi, h⟩ := sat_in h
          refine va_iald hx hb hk.1 hP 1 0 rfl rfl hi dX12_pairOf_22 ?_
          refine lv_if_le (tgt := 35) hx hb dX12_pairOf_23 (by decide) (fun c23 => ?_) (fun c23 => ?_)
          · have h := sat_t c23 h
            refine lv_iinc (v := x3_4 + 1) (lv' := [(3, .int (x3_4 + 1)), (0, .ref a0), (1, .int x1), (2, .int x2_4)]) hx hb dX12_pairOf_35 hl (k := 3) rfl (congrArg (fun z => x3_4 + z) (by decide)) (by decide) rfl (fun ls hl => ?_)
            refine lv_goto (tgt := 4) hx hb dX12_pairOf_38 (by decide) ?_
            exact ih x2_4 (x3_4 + 1) _ h (lv_sub hl [1, 2, 3, 0] rfl)
          · have h := sat_f c23 h
            refine lv_iload_n hx hb dX12_pairOf_26 rfl (lv_at hl 2 rfl) ?_
            refine lv_if_ne (tgt := 32) hx hb dX12_pairOf_27 (by decide) (fun c27 => ?_) (fun c27 => ?_)
            · have h := sat_f c27 h
              refine lv_iinc (v := x2_4 + (-1)) (lv' := [(2, .int (x2_4 + (-1))), (0, .ref a0), (1, .int x1), (3, .int x3_4)]) hx hb dX12_pairOf_32 hl (k := 2) rfl (congrArg (fun z => x2_4 + z) (by decide)) (by decide) rfl (fun ls hl => ?_)
              refine lv_iinc (v := x3_4 + 1) (lv' := [(3, .int (x3_4 + 1)), (2, .int (x2_4 + (-1))), (0, .ref a0), (1, .int x1)]) hx hb dX12_pairOf_35 hl (k := 3) rfl (congrArg (fun z => x3_4 + z) (by decide)) (by decide) rfl (fun ls hl => ?_)
              refine lv_goto (tgt := 4) hx hb dX12_pairOf_38 (by decide) ?_
              exact ih (x2_4 + (-1)) (x3_4 + 1) _ h (lv_sub hl [2, 3, 1, 0] rfl)
            · have h := sat_t c27 h
              refine lv_iload_n hx hb dX12_pairOf_30 rfl (lv_at hl 3 rfl) ?_
              have hR := hC0 _ (hr4 _ (sat_some h))
              subst hR
              exact hret _ _ dX12_pairOf_31
  exact L4 N x1 0 _ h (lv_sub hl [2, 3, 1, 0] rfl)
def f_X12_type (m_letterMany : Int32) (m_text : ar) (x1 : Int32) : Option (Int32 × Int32 × ar) := Option.bind (f_X12_in x1 0 255) fun r_1 => if (b2i r_1) = 0 then some ((-1), m_letterMany, m_text) else if m_letterMany = 120 then some ((-3), m_letterMany, m_text) else ck (inb m_letterMany 120) (some (m_letterMany + 1, m_letterMany + 1, upd m_text m_letterMany.toNatClampNeg x1))
abbrev rm_X12_type : Room := { frames := 1, cells := 0, slots := 0, locals := 22 }
set_option maxRecDepth 100000 in
set_option maxHeartbeats 4000000 in
theorem k_X12_type (l : Launch) (D : va_G) (cI cZ cK : ClassId) (a0 a1 a2 a3 a4 a5 a6 a7 a8 a9 a10 a11 : Nat) (m_nodes : Int32) (m_every : Int32) (m_halves : Int32) (m_age : Int32) (m_life : Int32) (m_first : Int32) (m_undoMany : Int32) (m_undoAt : Int32) (m_letterMany : Int32) (m_readAt : Int32) (m_tokenAt : Int32) (m_token : Int32) (m_newNodes : Int32) (m_newEvery : Int32) (m_newHalves : Int32) (m_newAge : Int32) (m_newLife : Int32) (m_newFirst : Int32) (m_newLinks : Int32) (m_pathMany : Int32) (m_pathDelay : Int32) (m_seenMany : Int32) (m_text : ar) (x1 : Int32) (R : Int32 × Int32 × ar) (h : f_X12_type m_letterMany m_text x1 = some R) : Mu l D cI cZ cK yX12_type cX12_type 2 (some .int) rm_X12_type [.ref a0, .int x1] [(a0, .inr (12, [.int m_nodes, .int m_every, .int m_halves, .int m_age, .int m_life, .int m_first, .ref a1, .int m_undoMany, .int m_undoAt, .ref a2, .ref a3, .ref a4, .int m_letterMany, .ref a5, .int m_readAt, .int m_tokenAt, .int m_token, .int m_newNodes, .int m_newEvery, .int m_newHalves, .int m_newAge, .int m_newLife, .int m_newFirst, .int m_newLinks, .ref a6, .int m_pathMany, .int m_pathDelay, .ref a7, .ref a8, .int m_seenMany, .ref a9, .ref a10, .ref a11])), (a5, .inl (cI, 120, .inl m_text))] (some (.int R.1)) [(a0, .inr (12, [.int m_nodes, .int m_every, .int m_halves, .int m_age, .int m_life, .int m_first, .ref a1, .int m_undoMany, .int m_undoAt, .ref a2, .ref a3, .ref a4, .int R.2.1, .ref a5, .int m_readAt, .int m_tokenAt, .int m_token, .int m_newNodes, .int m_newEvery, .int m_newHalves, .int m_newAge, .int m_newLife, .int m_newFirst, .int m_newLinks, .ref a6, .int m_pathMany, .int m_pathDelay, .ref a7, .ref a8, .int m_seenMany, .ref a9, .ref a10, .ref a11])), (a5, .inl (cI, 120, .inl R.2.2))] := by
  refine mi_of (by decide) (vp_nar_int _) (Nat.le_of_ble_eq_true rfl) ?_
  intro p e s m args below meth c Q A ls hx hb hml hown hk hA w hret hl
  have hl : lv_has ls 2 [(0, .ref a0), (1, .int x1)] := hl
  obtain ⟨C0, hC0, h⟩ := sat_top h
  unfold f_X12_type at h
  refine lv_iload_n hx hb dX12_type_0 rfl (lv_at hl 1 rfl) ?_
  refine lv_iconst (v := 0) hx hb dX12_type_1 (by decide) ?_
  refine lv_sipush (v := 255) hx hb dX12_type_2 (by decide) ?_
  obtain ⟨r_1, e_1, h⟩ := sat_bind h
  refine cRS (rest := []) hx hb hml hown hk (k_X12_in l D cI cZ cK x1 0 255 r_1 e_1) (me_X12_in hk.2.1) (ms_X12_in hk.2.1) (ml_X12_58 hk.2.1) (w.1.sub [] rfl) hl.1 rfl rfl (Nat.le_of_ble_eq_true rfl) ⟨rfl, rfl, Nat.le_of_ble_eq_true rfl, Nat.le_of_ble_eq_true rfl, Nat.zero_le _, Nat.zero_le _⟩ dX12_type_5 ?_
  refine lv_if_ne (tgt := 13) hx hb dX12_type_8 (by decide) (fun c8 => ?_) (fun c8 => ?_)
  · have h := sat_f c8 h
    refine lv_aload_n hx hb dX12_type_13 rfl (lv_at hl 0 rfl) ?_
    refine gf_X12_66 hx hb hown hk w.1 0 rfl rfl dX12_type_14 ?_
    refine lv_bipush (v := 120) hx hb dX12_type_17 (by decide) ?_
    refine lv_icmp_ne (tgt := 25) hx hb dX12_type_19 (by decide) (fun c19 => ?_) (fun c19 => ?_)
    · have h := sat_f c19 h
      refine lv_aload_n hx hb dX12_type_25 rfl (lv_at hl 0 rfl) ?_
      refine gf_X12_33 hx hb hown hk w.1 0 rfl rfl dX12_type_26 ?_
      refine lv_aload_n hx hb dX12_type_29 rfl (lv_at hl 0 rfl) ?_
      refine gf_X12_66 hx hb hown hk w.1 0 rfl rfl dX12_type_30 ?_
      refine lv_iload_n hx hb dX12_type_33 rfl (lv_at hl 1 rfl) ?_
      obtain ⟨hi, h⟩ := sat_in h
      refine ra_ist (ws' := [(a0, .inr (12, [.int m_nodes, .int m_every, .int m_halves, .int m_age, .int m_life, .int m_first, .ref a1, .int m_undoMany, .int m_undoAt, .ref a2, .ref a3, .ref a4, .int m_letterMany, .ref a5, .int m_readAt, .int m_tokenAt, .int m_token, .int m_newNodes, .int m_newEvery, .int m_newHalves, .int m_newAge, .int m_newLife, .int m_newFirst, .int m_newLinks, .ref a6, .int m_pathMany, .int m_pathDelay, .ref a7, .ref a8, .int m_seenMany, .ref a9, .ref a10, .ref a11])), (a5, .inl (cI, 120, .inl (upd m_text m_letterMany.toNatClampNeg x1)))]) hx hb hk w 1 rfl hi rfl dX12_type_34 (fun H locs w => ?_)
      refine lv_aload_n hx hb dX12_type_35 rfl (lv_at hl 0 rfl) ?_
      refine lv_dup hx hb dX12_type_36 rfl ?_
      refine gf_X12_66 hx hb hown hk w.1 0 rfl rfl dX12_type_37 ?_
      refine lv_iconst (v := 1) hx hb dX12_type_40 (by decide) ?_
      refine lv_iadd hx hb dX12_type_41 ?_
      refine pf_X12_66 (ws' := [(a0, .inr (12, [.int m_nodes, .int m_every, .int m_halves, .int m_age, .int m_life, .int m_first, .ref a1, .int m_undoMany, .int m_undoAt, .ref a2, .ref a3, .ref a4, .int (m_letterMany + 1), .ref a5, .int m_readAt, .int m_tokenAt, .int m_token, .int m_newNodes, .int m_newEvery, .int m_newHalves, .int m_newAge, .int m_newLife, .int m_newFirst, .int m_newLinks, .ref a6, .int m_pathMany, .int m_pathDelay, .ref a7, .ref a8, .int m_seenMany, .ref a9, .ref a10, .ref a11])), (a5, .inl (cI, 120, .inl (upd m_text m_letterMany.toNatClampNeg x1)))]) hx hb hown hk w 0 rfl (Nat.le_of_ble_eq_true rfl) rfl dX12_type_42 (fun H locs w => ?_)
      refine lv_aload_n hx hb dX12_type_45 rfl (lv_at hl 0 rfl) ?_
      refine gf_X12_66 hx hb hown hk w.1 0 rfl rfl dX12_type_46 ?_
      have hR := hC0 _ (sat_some h)
      subst hR
      exact hret _ _ _ _ w dX12_type_49
    · have h := sat_t c19 h
      refine lv_bipush (v := (-3)) hx hb dX12_type_22 (by decide) ?_
      have hR := hC0 _ (sat_some h)
      subst hR
      exact hret _ _ _ _ w dX12_type_24
  · have h := sat_t c8 h
    refine lv_iconst (v := (-1)) hx hb dX12_type_11 (by decide) ?_
    have hR := hC0 _ (sat_some h)
    subst hR
    exact hret _ _ _ _ w dX12_type_12
def f_X12_clear (m_letterMany : Int32) : Option (Int32 × Int32) := some (m_letterMany, 0)
abbrev rm_X12_clear : Room := { frames := 0, cells := 0, slots := 0, locals := 0 }
set_option maxRecDepth 100000 in
set_option maxHeartbeats 4000000 in
theorem k_X12_clear (l : Launch) (D : va_G) (cI cZ cK : ClassId) (a0 a1 a2 a3 a4 a5 a6 a7 a8 a9 a10 a11 : Nat) (m_nodes : Int32) (m_every : Int32) (m_halves : Int32) (m_age : Int32) (m_life : Int32) (m_first : Int32) (m_undoMany : Int32) (m_undoAt : Int32) (m_letterMany : Int32) (m_readAt : Int32) (m_tokenAt : Int32) (m_token : Int32) (m_newNodes : Int32) (m_newEvery : Int32) (m_newHalves : Int32) (m_newAge : Int32) (m_newLife : Int32) (m_newFirst : Int32) (m_newLinks : Int32) (m_pathMany : Int32) (m_pathDelay : Int32) (m_seenMany : Int32) (R : Int32 × Int32) (h : f_X12_clear m_letterMany = some R) : Mu l D cI cZ cK yX12_clear cX12_clear 2 (some .int) rm_X12_clear [.ref a0] [(a0, .inr (12, [.int m_nodes, .int m_every, .int m_halves, .int m_age, .int m_life, .int m_first, .ref a1, .int m_undoMany, .int m_undoAt, .ref a2, .ref a3, .ref a4, .int m_letterMany, .ref a5, .int m_readAt, .int m_tokenAt, .int m_token, .int m_newNodes, .int m_newEvery, .int m_newHalves, .int m_newAge, .int m_newLife, .int m_newFirst, .int m_newLinks, .ref a6, .int m_pathMany, .int m_pathDelay, .ref a7, .ref a8, .int m_seenMany, .ref a9, .ref a10, .ref a11]))] (some (.int R.1)) [(a0, .inr (12, [.int m_nodes, .int m_every, .int m_halves, .int m_age, .int m_life, .int m_first, .ref a1, .int m_undoMany, .int m_undoAt, .ref a2, .ref a3, .ref a4, .int R.2, .ref a5, .int m_readAt, .int m_tokenAt, .int m_token, .int m_newNodes, .int m_newEvery, .int m_newHalves, .int m_newAge, .int m_newLife, .int m_newFirst, .int m_newLinks, .ref a6, .int m_pathMany, .int m_pathDelay, .ref a7, .ref a8, .int m_seenMany, .ref a9, .ref a10, .ref a11]))] := by
  refine mi_of (by decide) (vp_nar_int _) (Nat.le_of_ble_eq_true rfl) ?_
  intro p e s m args below meth c Q A ls hx hb hml hown hk hA w hret hl
  have hl : lv_has ls 2 [(0, .ref a0)] := hl
  obtain ⟨C0, hC0, h⟩ := sat_top h
  unfold f_X12_clear at h
  refine lv_aload_n hx hb dX12_clear_0 rfl (lv_at hl 0 rfl) ?_
  refine gf_X12_66 hx hb hown hk w.1 0 rfl rfl dX12_clear_1 ?_
  refine lv_istore_n (lv' := [(1, .int m_letterMany), (0, .ref a0)]) hx hb dX12_clear_4 rfl hl (by decide) rfl (fun ls hl => ?_)
  refine lv_aload_n hx hb dX12_clear_5 rfl (lv_at hl 1 rfl) ?_
  refine lv_iconst (v := 0) hx hb dX12_clear_6 (by decide) ?_
  refine pf_X12_66 (ws' := [(a0, .inr (12, [.int m_nodes, .int m_every, .int m_halves, .int m_age, .int m_life, .int m_first, .ref a1, .int m_undoMany, .int m_undoAt, .ref a2, .ref a3, .ref a4, .int 0, .ref a5, .int m_readAt, .int m_tokenAt, .int m_token, .int m_newNodes, .int m_newEvery, .int m_newHalves, .int m_newAge, .int m_newLife, .int m_newFirst, .int m_newLinks, .ref a6, .int m_pathMany, .int m_pathDelay, .ref a7, .ref a8, .int m_seenMany, .ref a9, .ref a10, .ref a11]))]) hx hb hown hk w 0 rfl (Nat.le_of_ble_eq_true rfl) rfl dX12_clear_7 (fun H locs w => ?_)
  refine lv_iload_n hx hb dX12_clear_10 rfl (lv_at hl 0 rfl) ?_
  have hR := hC0 _ (sat_some h)
  subst hR
  exact hret _ _ _ _ w dX12_clear_11
def f_X12_isFigure (m_letterMany : Int32) (m_text : ar) (m_readAt : Int32) : Option (Bool) := if m_letterMany ≤ m_readAt then some false else ck (inb m_readAt 120) (Option.bind (f_X12_in (m_text m_readAt.toNatClampNeg) 48 57) fun r_1 => if (b2i r_1) = 0 then some false else some true)
abbrev rm_X12_isFigure : Room := { frames := 1, cells := 0, slots := 0, locals := 22 }
set_option maxRecDepth 100000 in
set_option maxHeartbeats 4000000 in
theorem k_X12_isFigure (l : Launch) (D : va_G) (cI cZ cK : ClassId) (a0 a1 a2 a3 a4 a5 a6 a7 a8 a9 a10 a11 : Nat) (m_nodes : Int32) (m_every : Int32) (m_halves : Int32) (m_age : Int32) (m_life : Int32) (m_first : Int32) (m_undoMany : Int32) (m_undoAt : Int32) (m_letterMany : Int32) (m_readAt : Int32) (m_tokenAt : Int32) (m_token : Int32) (m_newNodes : Int32) (m_newEvery : Int32) (m_newHalves : Int32) (m_newAge : Int32) (m_newLife : Int32) (m_newFirst : Int32) (m_newLinks : Int32) (m_pathMany : Int32) (m_pathDelay : Int32) (m_seenMany : Int32) (m_text : ar) (R : Bool) (h : f_X12_isFigure m_letterMany m_text m_readAt = some R) : Rd l D cI cZ cK yX12_isFigure cX12_isFigure 1 (some .boolean) rm_X12_isFigure [.ref a0] [(a0, .inr (12, [.int m_nodes, .int m_every, .int m_halves, .int m_age, .int m_life, .int m_first, .ref a1, .int m_undoMany, .int m_undoAt, .ref a2, .ref a3, .ref a4, .int m_letterMany, .ref a5, .int m_readAt, .int m_tokenAt, .int m_token, .int m_newNodes, .int m_newEvery, .int m_newHalves, .int m_newAge, .int m_newLife, .int m_newFirst, .int m_newLinks, .ref a6, .int m_pathMany, .int m_pathDelay, .ref a7, .ref a8, .int m_seenMany, .ref a9, .ref a10, .ref a11])), (a5, .inl (cI, 120, .inl m_text))] (b2i R) := by
  refine rd_of (by decide) (nar_b _) (Nat.le_of_ble_eq_true rfl) ?_
  intro p e s m args below meth c Q ls hx hb hml hown hk hP hret hl
  have hl : lv_has ls 1 [(0, .ref a0)] := hl
  obtain ⟨C0, hC0, h⟩ := sat_top h
  unfold f_X12_isFigure at h
  refine lv_aload_n hx hb dX12_isFigure_0 rfl (lv_at hl 0 rfl) ?_
  refine gf_X12_69 hx hb hown hk hP 0 rfl rfl dX12_isFigure_1 ?_
  refine lv_aload_n hx hb dX12_isFigure_4 rfl (lv_at hl 0 rfl) ?_
  refine gf_X12_66 hx hb hown hk hP 0 rfl rfl dX12_isFigure_5 ?_
  refine lv_icmp_ge (tgt := 34) hx hb dX12_isFigure_8 (by decide) (fun c8 => ?_) (fun c8 => ?_)
  · have h := sat_t c8 h
    refine lv_iconst (v := 0) hx hb dX12_isFigure_34 (by decide) ?_
    have hR := hC0 _ (sat_some h)
    subst hR
    exact hret _ _ dX12_isFigure_35
  · have h := sat_f c8 h
    refine lv_aload_n hx hb dX12_isFigure_11 rfl (lv_at hl 0 rfl) ?_
    refine gf_X12_33 hx hb hown hk hP 0 rfl rfl dX12_isFigure_12 ?_
    refine lv_aload_n hx hb dX12_isFigure_15 rfl (lv_at hl 0 rfl) ?_
    refine gf_X12_69 hx hb hown hk hP 0 rfl rfl dX12_isFigure_16 ?_
    obtain ⟨hi, h⟩ := sat_in h
    refine va_iald hx hb hk.1 hP 1 0 rfl rfl hi dX12_isFigure_19 ?_
    refine lv_bipush (v := 48) hx hb dX12_isFigure_20 (by decide) ?_
    refine lv_bipush (v := 57) hx hb dX12_isFigure_22 (by decide) ?_
    obtain ⟨r_1, e_1, h⟩ := sat_bind h
    refine cRS (rest := []) hx hb hml hown hk (k_X12_in l D cI cZ cK (m_text m_readAt.toNatClampNeg) 48 57 r_1 e_1) (me_X12_in hk.2.1) (ms_X12_in hk.2.1) (ml_X12_58 hk.2.1) (hP.sub [] rfl) hl.1 rfl rfl (Nat.le_of_ble_eq_true rfl) ⟨rfl, rfl, Nat.le_of_ble_eq_true rfl, Nat.le_of_ble_eq_true rfl, Nat.zero_le _, Nat.zero_le _⟩ dX12_isFigure_24 ?_
    refine lv_if_eq (tgt := 34) hx hb dX12_isFigure_27 (by decide) (fun c27 => ?_) (fun c27 => ?_)
    · have h := sat_t c27 h
      refine lv_iconst (v := 0) hx hb dX12_isFigure_34 (by decide) ?_
      have hR := hC0 _ (sat_some h)
      subst hR
      exact hret _ _ dX12_isFigure_35
    · have h := sat_f c27 h
      refine lv_iconst (v := 1) hx hb dX12_isFigure_30 (by decide) ?_
      refine lv_goto (tgt := 35) hx hb dX12_isFigure_31 (by decide) ?_
      have hR := hC0 _ (sat_some h)
      subst hR
      exact hret _ _ dX12_isFigure_35
def f_X12_blanks_L0 (m_letterMany : Int32) (m_text : ar) : Nat → Int32 → Option (Int32)
  | 0, _ => none
  | n + 1, m_readAt_0 => if m_letterMany ≤ m_readAt_0 then some m_readAt_0 else ck (inb m_readAt_0 120) (if (m_text m_readAt_0.toNatClampNeg) = 32 then f_X12_blanks_L0 m_letterMany m_text n (m_readAt_0 + 1) else some m_readAt_0)
def f_X12_blanks (N : Nat) (m_letterMany : Int32) (m_text : ar) (m_readAt : Int32) : Option (Int32) := Option.bind (f_X12_blanks_L0 m_letterMany m_text N m_readAt) fun s0 => some s0
abbrev rm_X12_blanks : Room := { frames := 0, cells := 0, slots := 0, locals := 0 }
set_option maxRecDepth 100000 in
set_option maxHeartbeats 4000000 in
theorem k_X12_blanks (l : Launch) (D : va_G) (cI cZ cK : ClassId) (N : Nat) (a0 a1 a2 a3 a4 a5 a6 a7 a8 a9 a10 a11 : Nat) (m_nodes : Int32) (m_every : Int32) (m_halves : Int32) (m_age : Int32) (m_life : Int32) (m_first : Int32) (m_undoMany : Int32) (m_undoAt : Int32) (m_letterMany : Int32) (m_readAt : Int32) (m_tokenAt : Int32) (m_token : Int32) (m_newNodes : Int32) (m_newEvery : Int32) (m_newHalves : Int32) (m_newAge : Int32) (m_newLife : Int32) (m_newFirst : Int32) (m_newLinks : Int32) (m_pathMany : Int32) (m_pathDelay : Int32) (m_seenMany : Int32) (m_text : ar) (R : Int32) (h : f_X12_blanks N m_letterMany m_text m_readAt = some R) : Mu l D cI cZ cK yX12_blanks cX12_blanks 1 none rm_X12_blanks [.ref a0] [(a0, .inr (12, [.int m_nodes, .int m_every, .int m_halves, .int m_age, .int m_life, .int m_first, .ref a1, .int m_undoMany, .int m_undoAt, .ref a2, .ref a3, .ref a4, .int m_letterMany, .ref a5, .int m_readAt, .int m_tokenAt, .int m_token, .int m_newNodes, .int m_newEvery, .int m_newHalves, .int m_newAge, .int m_newLife, .int m_newFirst, .int m_newLinks, .ref a6, .int m_pathMany, .int m_pathDelay, .ref a7, .ref a8, .int m_seenMany, .ref a9, .ref a10, .ref a11])), (a5, .inl (cI, 120, .inl m_text))] none [(a0, .inr (12, [.int m_nodes, .int m_every, .int m_halves, .int m_age, .int m_life, .int m_first, .ref a1, .int m_undoMany, .int m_undoAt, .ref a2, .ref a3, .ref a4, .int m_letterMany, .ref a5, .int R, .int m_tokenAt, .int m_token, .int m_newNodes, .int m_newEvery, .int m_newHalves, .int m_newAge, .int m_newLife, .int m_newFirst, .int m_newLinks, .ref a6, .int m_pathMany, .int m_pathDelay, .ref a7, .ref a8, .int m_seenMany, .ref a9, .ref a10, .ref a11])), (a5, .inl (cI, 120, .inl m_text))] := by
  refine mv_of (by decide) (Nat.le_of_ble_eq_true rfl) ?_
  intro p e s m args below meth c Q A ls hx hb hml hown hk hA w hret hl
  have hl : lv_has ls 1 [(0, .ref a0)] := hl
  obtain ⟨C0, hC0, h⟩ := sat_top h
  unfold f_X12_blanks at h
  obtain ⟨T0, hT0, h⟩ := sat_reg h
  have E0 : ∀ (m_readAt_1 : Int32) (H : Heap) (locs : List Loc) (ls : Array Slot), T0 m_readAt_1 → wd D A s.heap H locs [(a0, .inr (12, [.int m_nodes, .int m_every, .int m_halves, .int m_age, .int m_life, .int m_first, .ref a1, .int m_undoMany, .int m_undoAt, .ref a2, .ref a3, .ref a4, .int m_letterMany, .ref a5, .int m_readAt_1, .int m_tokenAt, .int m_token, .int m_newNodes, .int m_newEvery, .int m_newHalves, .int m_newAge, .int m_newLife, .int m_newFirst, .int m_newLinks, .ref a6, .int m_pathMany, .int m_pathDelay, .ref a7, .ref a8, .int m_seenMany, .ref a9, .ref a10, .ref a11])), (a5, .inl (cI, 120, .inl m_text))] → lv_has ls 1 [] → W p l e rm_X12_blanks s m args below meth c H locs 0 0 Q (F0 m 38 ls []) := by
    intro m_readAt_1 H locs ls h w hl
    have h := hT0 _ h
    have hR := hC0 _ (sat_some h)
    subst hR
    exact hret _ _ _ _ w dX12_blanks_38
  have L0 : ∀ (n : Nat) (m_readAt_0 : Int32) (H : Heap) (locs : List Loc) (ls : Array Slot), sat (f_X12_blanks_L0 m_letterMany m_text n m_readAt_0) T0 → wd D A s.heap H locs [(a0, .inr (12, [.int m_nodes, .int m_every, .int m_halves, .int m_age, .int m_life, .int m_first, .ref a1, .int m_undoMany, .int m_undoAt, .ref a2, .ref a3, .ref a4, .int m_letterMany, .ref a5, .int m_readAt_0, .int m_tokenAt, .int m_token, .int m_newNodes, .int m_newEvery, .int m_newHalves, .int m_newAge, .int m_newLife, .int m_newFirst, .int m_newLinks, .ref a6, .int m_pathMany, .int m_pathDelay, .ref a7, .ref a8, .int m_seenMany, .ref a9, .ref a10, .ref a11])), (a5, .inl (cI, 120, .inl m_text))] → lv_has ls 1 [(0, .ref a0)] → W p l e rm_X12_blanks s m args below meth c H locs 0 0 Q (F0 m 0 ls []) := by
    intro n
    induction n with
    | zero =>
      intro m_readAt_0 H locs ls h
      rw [f_X12_blanks_L0] at h
      exact (sat_none h).elim
    | succ n ih =>
      intro m_readAt_0 H locs ls h w hl
      rw [f_X12_blanks_L0] at h
      refine lv_aload_n hx hb dX12_blanks_0 rfl (lv_at hl 0 rfl) ?_
      refine gf_X12_69 hx hb hown hk w.1 0 rfl rfl dX12_blanks_1 ?_
      refine lv_aload_n hx hb dX12_blanks_4 rfl (lv_at hl 0 rfl) ?_
      refine gf_X12_66 hx hb hown hk w.1 0 rfl rfl dX12_blanks_5 ?_
      refine lv_icmp_ge (tgt := 38) hx hb dX12_blanks_8 (by decide) (fun c8 => ?_) (fun c8 => ?_)
      · have h := sat_t c8 h
        exact E0 m_readAt_0 _ _ _ (sat_some h) w (lv_sub hl [] rfl)
      · have h := sat_f c8 h
        refine lv_aload_n hx hb dX12_blanks_11 rfl (lv_at hl 0 rfl) ?_
        refine gf_X12_33 hx hb hown hk w.1 0 rfl rfl dX12_blanks_12 ?_
        refine lv_aload_n hx hb dX12_blanks_15 rfl (lv_at hl 0 rfl) ?_
        refine gf_X12_69 hx hb hown hk w.1 0 rfl rfl dX12_blanks_16 ?_
        obtain ⟨hi, h⟩ := sat_in h
        refine va_iald hx hb hk.1 w.1 1 0 rfl rfl hi dX12_blanks_19 ?_
        refine lv_bipush (v := 32) hx hb dX12_blanks_20 (by decide) ?_
        refine lv_icmp_ne (tgt := 38) hx hb dX12_blanks_22 (by decide) (fun c22 => ?_) (fun c22 => ?_)
        · have h := sat_f c22 h
          exact E0 m_readAt_0 _ _ _ (sat_some h) w (lv_sub hl [] rfl)
        · have h := sat_t c22 h
          refine lv_aload_n hx hb dX12_blanks_25 rfl (lv_at hl 0 rfl) ?_
          refine lv_dup hx hb dX12_blanks_26 rfl ?_
          refine gf_X12_69 hx hb hown hk w.1 0 rfl rfl dX12_blanks_27 ?_
          refine lv_iconst (v := 1) hx hb dX12_blanks_30 (by decide) ?_
          refine lv_iadd hx hb dX12_blanks_31 ?_
          refine pf_X12_69 (ws' := [(a0, .inr (12, [.int m_nodes, .int m_every, .int m_halves, .int m_age, .int m_life, .int m_first, .ref a1, .int m_undoMany, .int m_undoAt, .ref a2, .ref a3, .ref a4, .int m_letterMany, .ref a5, .int (m_readAt_0 + 1), .int m_tokenAt, .int m_token, .int m_newNodes, .int m_newEvery, .int m_newHalves, .int m_newAge, .int m_newLife, .int m_newFirst, .int m_newLinks, .ref a6, .int m_pathMany, .int m_pathDelay, .ref a7, .ref a8, .int m_seenMany, .ref a9, .ref a10, .ref a11])), (a5, .inl (cI, 120, .inl m_text))]) hx hb hown hk w 0 rfl (Nat.le_of_ble_eq_true rfl) rfl dX12_blanks_32 (fun H locs w => ?_)
          refine lv_goto (tgt := 0) hx hb dX12_blanks_35 (by decide) ?_
          exact ih (m_readAt_0 + 1) _ _ _ h w (lv_sub hl [0] rfl)
  exact L0 N m_readAt _ _ _ h w (lv_sub hl [0] rfl)
def f_X12_next_L40 (m_letterMany : Int32) (m_text : ar) (r_1 : Int32) : Nat → Int32 → Int32 → Option (Int32 × Int32)
  | 0, _, _ => none
  | n + 1, x1_40, m_readAt_40 => Option.bind (f_X12_isFigure m_letterMany m_text m_readAt_40) fun r_3 => if (b2i r_3) = 0 then some (x1_40, m_readAt_40) else if 2 ≤ (m_readAt_40 - r_1) then f_X12_next_L40 m_letterMany m_text r_1 n 100 (m_readAt_40 + 1) else ck (inb m_readAt_40 120) (f_X12_next_L40 m_letterMany m_text r_1 n (((10 * x1_40) + (m_text m_readAt_40.toNatClampNeg)) - 48) (m_readAt_40 + 1))
def f_X12_next (N : Nat) (m_letterMany : Int32) (m_text : ar) (m_readAt : Int32) : Option (Int32 × Int32 × Int32) := Option.bind (f_X12_blanks N m_letterMany m_text m_readAt) fun r_1 => if r_1 = m_letterMany then some (r_1, r_1, (-1)) else Option.bind (f_X12_isFigure m_letterMany m_text r_1) fun r_2 => if (b2i r_2) = 0 then ck (inb r_1 120) (some (r_1 + 1, r_1, m_text r_1.toNatClampNeg)) else Option.bind (f_X12_next_L40 m_letterMany m_text r_1 N 0 r_1) fun s40 => if 99 < s40.1 then some (s40.2, r_1, 2000) else ck (inb r_1 120) (if (m_text r_1.toNatClampNeg) = 48 then if (s40.2 - r_1) ≤ 1 then some (s40.2, r_1, 1000 + s40.1) else some (s40.2, r_1, 2000) else some (s40.2, r_1, 1000 + s40.1))
abbrev rm_X12_next : Room := { frames := 2, cells := 0, slots := 0, locals := 42 }
set_option maxRecDepth 100000 in
set_option maxHeartbeats 4000000 in
theorem k_X12_next (l : Launch) (D : va_G) (cI cZ cK : ClassId) (N : Nat) (a0 a1 a2 a3 a4 a5 a6 a7 a8 a9 a10 a11 : Nat) (m_nodes : Int32) (m_every : Int32) (m_halves : Int32) (m_age : Int32) (m_life : Int32) (m_first : Int32) (m_undoMany : Int32) (m_undoAt : Int32) (m_letterMany : Int32) (m_readAt : Int32) (m_tokenAt : Int32) (m_token : Int32) (m_newNodes : Int32) (m_newEvery : Int32) (m_newHalves : Int32) (m_newAge : Int32) (m_newLife : Int32) (m_newFirst : Int32) (m_newLinks : Int32) (m_pathMany : Int32) (m_pathDelay : Int32) (m_seenMany : Int32) (m_text : ar) (R : Int32 × Int32 × Int32) (h : f_X12_next N m_letterMany m_text m_readAt = some R) : Mu l D cI cZ cK yX12_next cX12_next 2 none rm_X12_next [.ref a0] [(a0, .inr (12, [.int m_nodes, .int m_every, .int m_halves, .int m_age, .int m_life, .int m_first, .ref a1, .int m_undoMany, .int m_undoAt, .ref a2, .ref a3, .ref a4, .int m_letterMany, .ref a5, .int m_readAt, .int m_tokenAt, .int m_token, .int m_newNodes, .int m_newEvery, .int m_newHalves, .int m_newAge, .int m_newLife, .int m_newFirst, .int m_newLinks, .ref a6, .int m_pathMany, .int m_pathDelay, .ref a7, .ref a8, .int m_seenMany, .ref a9, .ref a10, .ref a11])), (a5, .inl (cI, 120, .inl m_text))] none [(a0, .inr (12, [.int m_nodes, .int m_every, .int m_halves, .int m_age, .int m_life, .int m_first, .ref a1, .int m_undoMany, .int m_undoAt, .ref a2, .ref a3, .ref a4, .int m_letterMany, .ref a5, .int R.1, .int R.2.1, .int R.2.2, .int m_newNodes, .int m_newEvery, .int m_newHalves, .int m_newAge, .int m_newLife, .int m_newFirst, .int m_newLinks, .ref a6, .int m_pathMany, .int m_pathDelay, .ref a7, .ref a8, .int m_seenMany, .ref a9, .ref a10, .ref a11])), (a5, .inl (cI, 120, .inl m_text))] := by
  refine mv_of (by decide) (Nat.le_of_ble_eq_true rfl) ?_
  intro p e s m args below meth c Q A ls hx hb hml hown hk hA w hret hl
  have hl : lv_has ls 2 [(0, .ref a0)] := hl
  obtain ⟨C0, hC0, h⟩ := sat_top h
  unfold f_X12_next at h
  refine lv_aload_n hx hb dX12_next_0 rfl (lv_at hl 0 rfl) ?_
  obtain ⟨r_1, e_1, h⟩ := sat_bind h
  refine cMV (rest := []) (wr := []) (ws' := [(a0, .inr (12, [.int m_nodes, .int m_every, .int m_halves, .int m_age, .int m_life, .int m_first, .ref a1, .int m_undoMany, .int m_undoAt, .ref a2, .ref a3, .ref a4, .int m_letterMany, .ref a5, .int r_1, .int m_tokenAt, .int m_token, .int m_newNodes, .int m_newEvery, .int m_newHalves, .int m_newAge, .int m_newLife, .int m_newFirst, .int m_newLinks, .ref a6, .int m_pathMany, .int m_pathDelay, .ref a7, .ref a8, .int m_seenMany, .ref a9, .ref a10, .ref a11])), (a5, .inl (cI, 120, .inl m_text))]) hx hb hml hown hk w hA (k_X12_blanks l D cI cZ cK N a0 a1 a2 a3 a4 a5 a6 a7 a8 a9 a10 a11 m_nodes m_every m_halves m_age m_life m_first m_undoMany m_undoAt m_letterMany m_readAt m_tokenAt m_token m_newNodes m_newEvery m_newHalves m_newAge m_newLife m_newFirst m_newLinks m_pathMany m_pathDelay m_seenMany m_text r_1 e_1) (me_X12_blanks hk.2.1) (mi_X12_blanks hk.2.1) (ml_X12_72 hk.2.1) ((pmn 2 [0, 1] rfl rfl (by decide))) ((pmn 2 [0, 1] rfl rfl (by decide))) 0 rfl rfl rfl hl.1 rfl rfl (Nat.le_of_ble_eq_true rfl) ⟨rfl, rfl, Nat.le_of_ble_eq_true rfl, Nat.le_of_ble_eq_true rfl, Nat.zero_le _, Nat.zero_le _⟩ dX12_next_1 (fun H locs w => ?_)
  refine W.eq (g2 := F0 m 4 ls []) rfl ?_
  refine lv_aload_n hx hb dX12_next_4 rfl (lv_at hl 0 rfl) ?_
  refine lv_aload_n hx hb dX12_next_5 rfl (lv_at hl 0 rfl) ?_
  refine gf_X12_69 hx hb hown hk w.1 0 rfl rfl dX12_next_6 ?_
  refine pf_X12_75 (ws' := [(a0, .inr (12, [.int m_nodes, .int m_every, .int m_halves, .int m_age, .int m_life, .int m_first, .ref a1, .int m_undoMany, .int m_undoAt, .ref a2, .ref a3, .ref a4, .int m_letterMany, .ref a5, .int r_1, .int r_1, .int m_token, .int m_newNodes, .int m_newEvery, .int m_newHalves, .int m_newAge, .int m_newLife, .int m_newFirst, .int m_newLinks, .ref a6, .int m_pathMany, .int m_pathDelay, .ref a7, .ref a8, .int m_seenMany, .ref a9, .ref a10, .ref a11])), (a5, .inl (cI, 120, .inl m_text))]) hx hb hown hk w 0 rfl (Nat.le_of_ble_eq_true rfl) rfl dX12_next_9 (fun H locs w => ?_)
  refine lv_aload_n hx hb dX12_next_12 rfl (lv_at hl 0 rfl) ?_
  refine gf_X12_69 hx hb hown hk w.1 0 rfl rfl dX12_next_13 ?_
  refine lv_aload_n hx hb dX12_next_16 rfl (lv_at hl 0 rfl) ?_
  refine gf_X12_66 hx hb hown hk w.1 0 rfl rfl dX12_next_17 ?_
  refine lv_icmp_ne (tgt := 31) hx hb dX12_next_20 (by decide) (fun c20 => ?_) (fun c20 => ?_)
  · have h := sat_f c20 h
    refine lv_aload_n hx hb dX12_next_31 rfl (lv_at hl 0 rfl) ?_
    obtain ⟨r_2, e_2, h⟩ := sat_bind h
    refine cRV (rest := []) hx hb hml hown hk (k_X12_isFigure l D cI cZ cK a0 a1 a2 a3 a4 a5 a6 a7 a8 a9 a10 a11 m_nodes m_every m_halves m_age m_life m_first m_undoMany m_undoAt m_letterMany r_1 r_1 m_token m_newNodes m_newEvery m_newHalves m_newAge m_newLife m_newFirst m_newLinks m_pathMany m_pathDelay m_seenMany m_text r_2 e_2) (me_X12_isFigure hk.2.1) (mi_X12_isFigure hk.2.1) (ml_X12_81 hk.2.1) (w.1.sub [0, 1] rfl) 0 rfl rfl rfl hl.1 rfl rfl (Nat.le_of_ble_eq_true rfl) ⟨rfl, rfl, Nat.le_of_ble_eq_true rfl, Nat.le_of_ble_eq_true rfl, Nat.zero_le _, Nat.zero_le _⟩ dX12_next_32 ?_
    refine lv_if_eq (tgt := 147) hx hb dX12_next_35 (by decide) (fun c35 => ?_) (fun c35 => ?_)
    · have h := sat_t c35 h
      refine lv_aload_n hx hb dX12_next_147 rfl (lv_at hl 0 rfl) ?_
      refine lv_aload_n hx hb dX12_next_148 rfl (lv_at hl 0 rfl) ?_
      refine gf_X12_33 hx hb hown hk w.1 0 rfl rfl dX12_next_149 ?_
      refine lv_aload_n hx hb dX12_next_152 rfl (lv_at hl 0 rfl) ?_
      refine gf_X12_69 hx hb hown hk w.1 0 rfl rfl dX12_next_153 ?_
      obtain ⟨hi, h⟩ := sat_in h
      refine va_iald hx hb hk.1 w.1 1 0 rfl rfl hi dX12_next_156 ?_
      refine pf_X12_78 (ws' := [(a0, .inr (12, [.int m_nodes, .int m_every, .int m_halves, .int m_age, .int m_life, .int m_first, .ref a1, .int m_undoMany, .int m_undoAt, .ref a2, .ref a3, .ref a4, .int m_letterMany, .ref a5, .int r_1, .int r_1, .int (m_text r_1.toNatClampNeg), .int m_newNodes, .int m_newEvery, .int m_newHalves, .int m_newAge, .int m_newLife, .int m_newFirst, .int m_newLinks, .ref a6, .int m_pathMany, .int m_pathDelay, .ref a7, .ref a8, .int m_seenMany, .ref a9, .ref a10, .ref a11])), (a5, .inl (cI, 120, .inl m_text))]) hx hb hown hk w 0 rfl (Nat.le_of_ble_eq_true rfl) rfl dX12_next_157 (fun H locs w => ?_)
      refine lv_aload_n hx hb dX12_next_160 rfl (lv_at hl 0 rfl) ?_
      refine lv_dup hx hb dX12_next_161 rfl ?_
      refine gf_X12_69 hx hb hown hk w.1 0 rfl rfl dX12_next_162 ?_
      refine lv_iconst (v := 1) hx hb dX12_next_165 (by decide) ?_
      refine lv_iadd hx hb dX12_next_166 ?_
      refine pf_X12_69 (ws' := [(a0, .inr (12, [.int m_nodes, .int m_every, .int m_halves, .int m_age, .int m_life, .int m_first, .ref a1, .int m_undoMany, .int m_undoAt, .ref a2, .ref a3, .ref a4, .int m_letterMany, .ref a5, .int (r_1 + 1), .int r_1, .int (m_text r_1.toNatClampNeg), .int m_newNodes, .int m_newEvery, .int m_newHalves, .int m_newAge, .int m_newLife, .int m_newFirst, .int m_newLinks, .ref a6, .int m_pathMany, .int m_pathDelay, .ref a7, .ref a8, .int m_seenMany, .ref a9, .ref a10, .ref a11])), (a5, .inl (cI, 120, .inl m_text))]) hx hb hown hk w 0 rfl (Nat.le_of_ble_eq_true rfl) rfl dX12_next_167 (fun H locs w => ?_)
      have hR := hC0 _ (sat_some h)
      subst hR
      exact hret _ _ _ _ w dX12_next_170
    · have h := sat_f c35 h
      refine lv_iconst (v := 0) hx hb dX12_next_38 (by decide) ?_
      refine lv_istore_n (lv' := [(1, .int 0), (0, .ref a0)]) hx hb dX12_next_39 rfl hl (by decide) rfl (fun ls hl => ?_)
      obtain ⟨T40, hT40, h⟩ := sat_reg h
      have E40 : ∀ (e1_4 : Int32) (m_readAt_5 : Int32) (H : Heap) (locs : List Loc) (ls : Array Slot), T40 (e1_4, m_readAt_5) → wd D A s.heap H locs [(a0, .inr (12, [.int m_nodes, .int m_every, .int m_halves, .int m_age, .int m_life, .int m_first, .ref a1, .int m_undoMany, .int m_undoAt, .ref a2, .ref a3, .ref a4, .int m_letterMany, .ref a5, .int m_readAt_5, .int r_1, .int m_token, .int m_newNodes, .int m_newEvery, .int m_newHalves, .int m_newAge, .int m_newLife, .int m_newFirst, .int m_newLinks, .ref a6, .int m_pathMany, .int m_pathDelay, .ref a7, .ref a8, .int m_seenMany, .ref a9, .ref a10, .ref a11])), (a5, .inl (cI, 120, .inl m_text))] → lv_has ls 2 [(0, .ref a0), (1, .int e1_4)] → W p l e rm_X12_next s m args below meth c H locs 0 0 Q (F0 m 96 ls []) := by
        intro e1_4 m_readAt_5 H locs ls h w hl
        have h := hT40 _ h
        dsimp only at h
        refine lv_aload_n hx hb dX12_next_96 rfl (lv_at hl 0 rfl) ?_
        refine lv_iload_n hx hb dX12_next_97 rfl (lv_at hl 1 rfl) ?_
        refine lv_bipush (v := 99) hx hb dX12_next_98 (by decide) ?_
        refine lv_icmp_gt (tgt := 130) hx hb dX12_next_100 (by decide) (fun c100 => ?_) (fun c100 => ?_)
        · have h := sat_t c100 h
          refine lv_sipush (v := 2000) hx hb dX12_next_130 (by decide) ?_
          refine lv_goto (tgt := 141) hx hb dX12_next_133 (by decide) ?_
          refine pf_X12_78 (ws' := [(a0, .inr (12, [.int m_nodes, .int m_every, .int m_halves, .int m_age, .int m_life, .int m_first, .ref a1, .int m_undoMany, .int m_undoAt, .ref a2, .ref a3, .ref a4, .int m_letterMany, .ref a5, .int m_readAt_5, .int r_1, .int 2000, .int m_newNodes, .int m_newEvery, .int m_newHalves, .int m_newAge, .int m_newLife, .int m_newFirst, .int m_newLinks, .ref a6, .int m_pathMany, .int m_pathDelay, .ref a7, .ref a8, .int m_seenMany, .ref a9, .ref a10, .ref a11])), (a5, .inl (cI, 120, .inl m_text))]) hx hb hown hk w 0 rfl (Nat.le_of_ble_eq_true rfl) rfl dX12_next_141 (fun H locs w => ?_)
          refine lv_goto (tgt := 170) hx hb dX12_next_144 (by decide) ?_
          have hR := hC0 _ (sat_some h)
          subst hR
          exact hret _ _ _ _ w dX12_next_170
        · have h := sat_f c100 h
          refine lv_aload_n hx hb dX12_next_103 rfl (lv_at hl 0 rfl) ?_
          refine gf_X12_33 hx hb hown hk w.1 0 rfl rfl dX12_next_104 ?_
          refine lv_aload_n hx hb dX12_next_107 rfl (lv_at hl 0 rfl) ?_
          refine gf_X12_75 hx hb hown hk w.1 0 rfl rfl dX12_next_108 ?_
          obtain ⟨hi, h⟩ := sat_in h
          refine va_iald hx hb hk.1 w.1 1 0 rfl rfl hi dX12_next_111 ?_
          refine lv_bipush (v := 48) hx hb dX12_next_112 (by decide) ?_
          refine lv_icmp_ne (tgt := 136) hx hb dX12_next_114 (by decide) (fun c114 => ?_) (fun c114 => ?_)
          · have h := sat_f c114 h
            refine lv_sipush (v := 1000) hx hb dX12_next_136 (by decide) ?_
            refine lv_iload_n hx hb dX12_next_139 rfl (lv_at hl 1 rfl) ?_
            refine lv_iadd hx hb dX12_next_140 ?_
            refine pf_X12_78 (ws' := [(a0, .inr (12, [.int m_nodes, .int m_every, .int m_halves, .int m_age, .int m_life, .int m_first, .ref a1, .int m_undoMany, .int m_undoAt, .ref a2, .ref a3, .ref a4, .int m_letterMany, .ref a5, .int m_readAt_5, .int r_1, .int (1000 + e1_4), .int m_newNodes, .int m_newEvery, .int m_newHalves, .int m_newAge, .int m_newLife, .int m_newFirst, .int m_newLinks, .ref a6, .int m_pathMany, .int m_pathDelay, .ref a7, .ref a8, .int m_seenMany, .ref a9, .ref a10, .ref a11])), (a5, .inl (cI, 120, .inl m_text))]) hx hb hown hk w 0 rfl (Nat.le_of_ble_eq_true rfl) rfl dX12_next_141 (fun H locs w => ?_)
            refine lv_goto (tgt := 170) hx hb dX12_next_144 (by decide) ?_
            have hR := hC0 _ (sat_some h)
            subst hR
            exact hret _ _ _ _ w dX12_next_170
          · have h := sat_t c114 h
            refine lv_aload_n hx hb dX12_next_117 rfl (lv_at hl 0 rfl) ?_
            refine gf_X12_69 hx hb hown hk w.1 0 rfl rfl dX12_next_118 ?_
            refine lv_aload_n hx hb dX12_next_121 rfl (lv_at hl 0 rfl) ?_
            refine gf_X12_75 hx hb hown hk w.1 0 rfl rfl dX12_next_122 ?_
            refine lv_isub hx hb dX12_next_125 ?_
            refine lv_iconst (v := 1) hx hb dX12_next_126 (by decide) ?_
            refine lv_icmp_le (tgt := 136) hx hb dX12_next_127 (by decide) (fun c127 => ?_) (fun c127 => ?_)
            · have h := sat_t c127 h
              refine lv_sipush (v := 1000) hx hb dX12_next_136 (by decide) ?_
              refine lv_iload_n hx hb dX12_next_139 rfl (lv_at hl 1 rfl) ?_
              refine lv_iadd hx hb dX12_next_140 ?_
              refine pf_X12_78 (ws' := [(a0, .inr (12, [.int m_nodes, .int m_every, .int m_halves, .int m_age, .int m_life, .int m_first, .ref a1, .int m_undoMany, .int m_undoAt, .ref a2, .ref a3, .ref a4, .int m_letterMany, .ref a5, .int m_readAt_5, .int r_1, .int (1000 + e1_4), .int m_newNodes, .int m_newEvery, .int m_newHalves, .int m_newAge, .int m_newLife, .int m_newFirst, .int m_newLinks, .ref a6, .int m_pathMany, .int m_pathDelay, .ref a7, .ref a8, .int m_seenMany, .ref a9, .ref a10, .ref a11])), (a5, .inl (cI, 120, .inl m_text))]) hx hb hown hk w 0 rfl (Nat.le_of_ble_eq_true rfl) rfl dX12_next_141 (fun H locs w => ?_)
              refine lv_goto (tgt := 170) hx hb dX12_next_144 (by decide) ?_
              have hR := hC0 _ (sat_some h)
              subst hR
              exact hret _ _ _ _ w dX12_next_170
            · have h := sat_f c127 h
              refine lv_sipush (v := 2000) hx hb dX12_next_130 (by decide) ?_
              refine lv_goto (tgt := 141) hx hb dX12_next_133 (by decide) ?_
              refine pf_X12_78 (ws' := [(a0, .inr (12, [.int m_nodes, .int m_every, .int m_halves, .int m_age, .int m_life, .int m_first, .ref a1, .int m_undoMany, .int m_undoAt, .ref a2, .ref a3, .ref a4, .int m_letterMany, .ref a5, .int m_readAt_5, .int r_1, .int 2000, .int m_newNodes, .int m_newEvery, .int m_newHalves, .int m_newAge, .int m_newLife, .int m_newFirst, .int m_newLinks, .ref a6, .int m_pathMany, .int m_pathDelay, .ref a7, .ref a8, .int m_seenMany, .ref a9, .ref a10, .ref a11])), (a5, .inl (cI, 120, .inl m_text))]) hx hb hown hk w 0 rfl (Nat.le_of_ble_eq_true rfl) rfl dX12_next_141 (fun H locs w => ?_)
              refine lv_goto (tgt := 170) hx hb dX12_next_144 (by decide) ?_
              have hR := hC0 _ (sat_some h)
              subst hR
              exact hret _ _ _ _ w dX12_next_170
      have L40 : ∀ (n : Nat) (x1_40 : Int32) (m_readAt_40 : Int32) (H : Heap) (locs : List Loc) (ls : Array Slot), sat (f_X12_next_L40 m_letterMany m_text r_1 n x1_40 m_readAt_40) T40 → wd D A s.heap H locs [(a0, .inr (12, [.int m_nodes, .int m_every, .int m_halves, .int m_age, .int m_life, .int m_first, .ref a1, .int m_undoMany, .int m_undoAt, .ref a2, .ref a3, .ref a4, .int m_letterMany, .ref a5, .int m_readAt_40, .int r_1, .int m_token, .int m_newNodes, .int m_newEvery, .int m_newHalves, .int m_newAge, .int m_newLife, .int m_newFirst, .int m_newLinks, .ref a6, .int m_pathMany, .int m_pathDelay, .ref a7, .ref a8, .int m_seenMany, .ref a9, .ref a10, .ref a11])), (a5, .inl (cI, 120, .inl m_text))] → lv_has ls 2 [(0, .ref a0), (1, .int x1_40)] → W p l e rm_X12_next s m args below meth c H locs 0 0 Q (F0 m 40 ls []) := by
        intro n
        induction n with
        | zero =>
          intro x1_40 m_readAt_40 H locs ls h
          rw [f_X12_next_L40] at h
          exact (sat_none h).elim
        | succ n ih =>
          intro x1_40 m_readAt_40 H locs ls h w hl
          rw [f_X12_next_L40] at h
          refine lv_aload_n hx hb dX12_next_40 rfl (lv_at hl 0 rfl) ?_
          obtain ⟨r_3, e_3, h⟩ := sat_bind h
          refine cRV (rest := []) hx hb hml hown hk (k_X12_isFigure l D cI cZ cK a0 a1 a2 a3 a4 a5 a6 a7 a8 a9 a10 a11 m_nodes m_every m_halves m_age m_life m_first m_undoMany m_undoAt m_letterMany m_readAt_40 r_1 m_token m_newNodes m_newEvery m_newHalves m_newAge m_newLife m_newFirst m_newLinks m_pathMany m_pathDelay m_seenMany m_text r_3 e_3) (me_X12_isFigure hk.2.1) (mi_X12_isFigure hk.2.1) (ml_X12_81 hk.2.1) (w.1.sub [0, 1] rfl) 0 rfl rfl rfl hl.1 rfl rfl (Nat.le_of_ble_eq_true rfl) ⟨rfl, rfl, Nat.le_of_ble_eq_true rfl, Nat.le_of_ble_eq_true rfl, Nat.zero_le _, Nat.zero_le _⟩ dX12_next_41 ?_
          refine lv_if_eq (tgt := 96) hx hb dX12_next_44 (by decide) (fun c44 => ?_) (fun c44 => ?_)
          · have h := sat_t c44 h
            exact E40 x1_40 m_readAt_40 _ _ _ (sat_some h) w (lv_sub hl [0, 1] rfl)
          · have h := sat_f c44 h
            refine lv_aload_n hx hb dX12_next_47 rfl (lv_at hl 0 rfl) ?_
            refine gf_X12_69 hx hb hown hk w.1 0 rfl rfl dX12_next_48 ?_
            refine lv_aload_n hx hb dX12_next_51 rfl (lv_at hl 0 rfl) ?_
            refine gf_X12_75 hx hb hown hk w.1 0 rfl rfl dX12_next_52 ?_
            refine lv_isub hx hb dX12_next_55 ?_
            refine lv_iconst (v := 2) hx hb dX12_next_56 (by decide) ?_
            refine lv_icmp_ge (tgt := 80) hx hb dX12_next_57 (by decide) (fun c57 => ?_) (fun c57 => ?_)
            · have h := sat_t c57 h
              refine lv_bipush (v := 100) hx hb dX12_next_80 (by decide) ?_
              refine lv_istore_n (lv' := [(1, .int 100), (0, .ref a0)]) hx hb dX12_next_82 rfl hl (by decide) rfl (fun ls hl => ?_)
              refine lv_aload_n hx hb dX12_next_83 rfl (lv_at hl 1 rfl) ?_
              refine lv_dup hx hb dX12_next_84 rfl ?_
              refine gf_X12_69 hx hb hown hk w.1 0 rfl rfl dX12_next_85 ?_
              refine lv_iconst (v := 1) hx hb dX12_next_88 (by decide) ?_
              refine lv_iadd hx hb dX12_next_89 ?_
              refine pf_X12_69 (ws' := [(a0, .inr (12, [.int m_nodes, .int m_every, .int m_halves, .int m_age, .int m_life, .int m_first, .ref a1, .int m_undoMany, .int m_undoAt, .ref a2, .ref a3, .ref a4, .int m_letterMany, .ref a5, .int (m_readAt_40 + 1), .int r_1, .int m_token, .int m_newNodes, .int m_newEvery, .int m_newHalves, .int m_newAge, .int m_newLife, .int m_newFirst, .int m_newLinks, .ref a6, .int m_pathMany, .int m_pathDelay, .ref a7, .ref a8, .int m_seenMany, .ref a9, .ref a10, .ref a11])), (a5, .inl (cI, 120, .inl m_text))]) hx hb hown hk w 0 rfl (Nat.le_of_ble_eq_true rfl) rfl dX12_next_90 (fun H locs w => ?_)
              refine lv_goto (tgt := 40) hx hb dX12_next_93 (by decide) ?_
              exact ih 100 (m_readAt_40 + 1) _ _ _ h w (lv_sub hl [1, 0] rfl)
            · have h := sat_f c57 h
              refine lv_bipush (v := 10) hx hb dX12_next_60 (by decide) ?_
              refine lv_iload_n hx hb dX12_next_62 rfl (lv_at hl 1 rfl) ?_
              refine lv_imul hx hb dX12_next_63 ?_
              refine lv_aload_n hx hb dX12_next_64 rfl (lv_at hl 0 rfl) ?_
              refine gf_X12_33 hx hb hown hk w.1 0 rfl rfl dX12_next_65 ?_
              refine lv_aload_n hx hb dX12_next_68 rfl (lv_at hl 0 rfl) ?_
              refine gf_X12_69 hx hb hown hk w.1 0 rfl rfl dX12_next_69 ?_
              obtain ⟨hi, h⟩ := sat_in h
              refine va_iald hx hb hk.1 w.1 1 0 rfl rfl hi dX12_next_72 ?_
              refine lv_iadd hx hb dX12_next_73 ?_
              refine lv_bipush (v := 48) hx hb dX12_next_74 (by decide) ?_
              refine lv_isub hx hb dX12_next_76 ?_
              refine lv_goto (tgt := 82) hx hb dX12_next_77 (by decide) ?_
              refine lv_istore_n (lv' := [(1, .int (((10 * x1_40) + (m_text m_readAt_40.toNatClampNeg)) - 48)), (0, .ref a0)]) hx hb dX12_next_82 rfl hl (by decide) rfl (fun ls hl => ?_)
              refine lv_aload_n hx hb dX12_next_83 rfl (lv_at hl 1 rfl) ?_
              refine lv_dup hx hb dX12_next_84 rfl ?_
              refine gf_X12_69 hx hb hown hk w.1 0 rfl rfl dX12_next_85 ?_
              refine lv_iconst (v := 1) hx hb dX12_next_88 (by decide) ?_
              refine lv_iadd hx hb dX12_next_89 ?_
              refine pf_X12_69 (ws' := [(a0, .inr (12, [.int m_nodes, .int m_every, .int m_halves, .int m_age, .int m_life, .int m_first, .ref a1, .int m_undoMany, .int m_undoAt, .ref a2, .ref a3, .ref a4, .int m_letterMany, .ref a5, .int (m_readAt_40 + 1), .int r_1, .int m_token, .int m_newNodes, .int m_newEvery, .int m_newHalves, .int m_newAge, .int m_newLife, .int m_newFirst, .int m_newLinks, .ref a6, .int m_pathMany, .int m_pathDelay, .ref a7, .ref a8, .int m_seenMany, .ref a9, .ref a10, .ref a11])), (a5, .inl (cI, 120, .inl m_text))]) hx hb hown hk w 0 rfl (Nat.le_of_ble_eq_true rfl) rfl dX12_next_90 (fun H locs w => ?_)
              refine lv_goto (tgt := 40) hx hb dX12_next_93 (by decide) ?_
              exact ih (((10 * x1_40) + (m_text m_readAt_40.toNatClampNeg)) - 48) (m_readAt_40 + 1) _ _ _ h w (lv_sub hl [1, 0] rfl)
      exact L40 N 0 r_1 _ _ _ h w (lv_sub hl [1, 0] rfl)
  · have h := sat_t c20 h
    refine lv_aload_n hx hb dX12_next_23 rfl (lv_at hl 0 rfl) ?_
    refine lv_iconst (v := (-1)) hx hb dX12_next_24 (by decide) ?_
    refine pf_X12_78 (ws' := [(a0, .inr (12, [.int m_nodes, .int m_every, .int m_halves, .int m_age, .int m_life, .int m_first, .ref a1, .int m_undoMany, .int m_undoAt, .ref a2, .ref a3, .ref a4, .int m_letterMany, .ref a5, .int r_1, .int r_1, .int (-1), .int m_newNodes, .int m_newEvery, .int m_newHalves, .int m_newAge, .int m_newLife, .int m_newFirst, .int m_newLinks, .ref a6, .int m_pathMany, .int m_pathDelay, .ref a7, .ref a8, .int m_seenMany, .ref a9, .ref a10, .ref a11])), (a5, .inl (cI, 120, .inl m_text))]) hx hb hown hk w 0 rfl (Nat.le_of_ble_eq_true rfl) rfl dX12_next_25 (fun H locs w => ?_)
    refine lv_goto (tgt := 170) hx hb dX12_next_28 (by decide) ?_
    have hR := hC0 _ (sat_some h)
    subst hR
    exact hret _ _ _ _ w dX12_next_170
def f_X12_isNumber (N : Nat) (m_letterMany : Int32) (m_text : ar) (m_readAt : Int32) (x1 : Int32) (x2 : Int32) : Option (Bool × Int32 × Int32 × Int32) := Option.bind (f_X12_next N m_letterMany m_text m_readAt) fun r_1 => Option.bind (f_X12_in r_1.2.2 (1000 + x1) (1000 + x2)) fun r_2 => some (r_2, r_1.1, r_1.2.1, r_1.2.2)
abbrev rm_X12_isNumber : Room := { frames := 3, cells := 0, slots := 0, locals := 63 }
set_option maxRecDepth 100000 in
set_option maxHeartbeats 4000000 in
theorem k_X12_isNumber (l : Launch) (D : va_G) (cI cZ cK : ClassId) (N : Nat) (a0 a1 a2 a3 a4 a5 a6 a7 a8 a9 a10 a11 : Nat) (m_nodes : Int32) (m_every : Int32) (m_halves : Int32) (m_age : Int32) (m_life : Int32) (m_first : Int32) (m_undoMany : Int32) (m_undoAt : Int32) (m_letterMany : Int32) (m_readAt : Int32) (m_tokenAt : Int32) (m_token : Int32) (m_newNodes : Int32) (m_newEvery : Int32) (m_newHalves : Int32) (m_newAge : Int32) (m_newLife : Int32) (m_newFirst : Int32) (m_newLinks : Int32) (m_pathMany : Int32) (m_pathDelay : Int32) (m_seenMany : Int32) (m_text : ar) (x1 : Int32) (x2 : Int32) (R : Bool × Int32 × Int32 × Int32) (h : f_X12_isNumber N m_letterMany m_text m_readAt x1 x2 = some R) : Mu l D cI cZ cK yX12_isNumber cX12_isNumber 3 (some .boolean) rm_X12_isNumber [.ref a0, .int x1, .int x2] [(a0, .inr (12, [.int m_nodes, .int m_every, .int m_halves, .int m_age, .int m_life, .int m_first, .ref a1, .int m_undoMany, .int m_undoAt, .ref a2, .ref a3, .ref a4, .int m_letterMany, .ref a5, .int m_readAt, .int m_tokenAt, .int m_token, .int m_newNodes, .int m_newEvery, .int m_newHalves, .int m_newAge, .int m_newLife, .int m_newFirst, .int m_newLinks, .ref a6, .int m_pathMany, .int m_pathDelay, .ref a7, .ref a8, .int m_seenMany, .ref a9, .ref a10, .ref a11])), (a5, .inl (cI, 120, .inl m_text))] (some (.int (b2i R.1))) [(a0, .inr (12, [.int m_nodes, .int m_every, .int m_halves, .int m_age, .int m_life, .int m_first, .ref a1, .int m_undoMany, .int m_undoAt, .ref a2, .ref a3, .ref a4, .int m_letterMany, .ref a5, .int R.2.1, .int R.2.2.1, .int R.2.2.2, .int m_newNodes, .int m_newEvery, .int m_newHalves, .int m_newAge, .int m_newLife, .int m_newFirst, .int m_newLinks, .ref a6, .int m_pathMany, .int m_pathDelay, .ref a7, .ref a8, .int m_seenMany, .ref a9, .ref a10, .ref a11])), (a5, .inl (cI, 120, .inl m_text))] := by
  refine mi_of (by decide) (nar_b _) (Nat.le_of_ble_eq_true rfl) ?_
  intro p e s m args below meth c Q A ls hx hb hml hown hk hA w hret hl
  have hl : lv_has ls 3 [(0, .ref a0), (1, .int x1), (2, .int x2)] := hl
  obtain ⟨C0, hC0, h⟩ := sat_top h
  unfold f_X12_isNumber at h
  refine lv_aload_n hx hb dX12_isNumber_0 rfl (lv_at hl 0 rfl) ?_
  obtain ⟨r_1, e_1, h⟩ := sat_bind h
  refine cMV (rest := []) (wr := []) (ws' := [(a0, .inr (12, [.int m_nodes, .int m_every, .int m_halves, .int m_age, .int m_life, .int m_first, .ref a1, .int m_undoMany, .int m_undoAt, .ref a2, .ref a3, .ref a4, .int m_letterMany, .ref a5, .int r_1.1, .int r_1.2.1, .int r_1.2.2, .int m_newNodes, .int m_newEvery, .int m_newHalves, .int m_newAge, .int m_newLife, .int m_newFirst, .int m_newLinks, .ref a6, .int m_pathMany, .int m_pathDelay, .ref a7, .ref a8, .int m_seenMany, .ref a9, .ref a10, .ref a11])), (a5, .inl (cI, 120, .inl m_text))]) hx hb hml hown hk w hA (k_X12_next l D cI cZ cK N a0 a1 a2 a3 a4 a5 a6 a7 a8 a9 a10 a11 m_nodes m_every m_halves m_age m_life m_first m_undoMany m_undoAt m_letterMany m_readAt m_tokenAt m_token m_newNodes m_newEvery m_newHalves m_newAge m_newLife m_newFirst m_newLinks m_pathMany m_pathDelay m_seenMany m_text r_1 e_1) (me_X12_next hk.2.1) (mi_X12_next hk.2.1) (ml_X12_85 hk.2.1) ((pmn 2 [0, 1] rfl rfl (by decide))) ((pmn 2 [0, 1] rfl rfl (by decide))) 0 rfl rfl rfl hl.1 rfl rfl (Nat.le_of_ble_eq_true rfl) ⟨rfl, rfl, Nat.le_of_ble_eq_true rfl, Nat.le_of_ble_eq_true rfl, Nat.zero_le _, Nat.zero_le _⟩ dX12_isNumber_1 (fun H locs w => ?_)
  refine W.eq (g2 := F0 m 4 ls []) rfl ?_
  refine lv_aload_n hx hb dX12_isNumber_4 rfl (lv_at hl 0 rfl) ?_
  refine gf_X12_78 hx hb hown hk w.1 0 rfl rfl dX12_isNumber_5 ?_
  refine lv_sipush (v := 1000) hx hb dX12_isNumber_8 (by decide) ?_
  refine lv_iload_n hx hb dX12_isNumber_11 rfl (lv_at hl 1 rfl) ?_
  refine lv_iadd hx hb dX12_isNumber_12 ?_
  refine lv_sipush (v := 1000) hx hb dX12_isNumber_13 (by decide) ?_
  refine lv_iload_n hx hb dX12_isNumber_16 rfl (lv_at hl 2 rfl) ?_
  refine lv_iadd hx hb dX12_isNumber_17 ?_
  obtain ⟨r_2, e_2, h⟩ := sat_bind h
  refine cRS (rest := []) hx hb hml hown hk (k_X12_in l D cI cZ cK r_1.2.2 (1000 + x1) (1000 + x2) r_2 e_2) (me_X12_in hk.2.1) (ms_X12_in hk.2.1) (ml_X12_58 hk.2.1) (w.1.sub [] rfl) hl.1 rfl rfl (Nat.le_of_ble_eq_true rfl) ⟨rfl, rfl, Nat.le_of_ble_eq_true rfl, Nat.le_of_ble_eq_true rfl, Nat.zero_le _, Nat.zero_le _⟩ dX12_isNumber_18 ?_
  have hR := hC0 _ (sat_some h)
  subst hR
  exact hret _ _ _ _ w dX12_isNumber_21
def f_X12_readsLink (N : Nat) (m_letterMany : Int32) (m_text : ar) (m_readAt : Int32) (m_tokenAt : Int32) (m_token : Int32) (m_newNodes : Int32) (m_newLinks : Int32) (m_newDelay : ar) : Option (Bool × Int32 × Int32 × Int32 × Int32 × ar) := if m_newLinks = 10 then some (false, m_readAt, m_tokenAt, m_token, m_newLinks, m_newDelay) else Option.bind (f_X12_isNumber N m_letterMany m_text m_readAt 0 (m_newNodes - 1)) fun r_1 => if (b2i r_1.1) = 0 then some (false, r_1.2.1, r_1.2.2.1, r_1.2.2.2, m_newLinks, m_newDelay) else Option.bind (f_X12_isNumber N m_letterMany m_text r_1.2.1 0 (m_newNodes - 1)) fun r_2 => if (b2i r_2.1) = 0 then some (false, r_2.2.1, r_2.2.2.1, r_2.2.2.2, m_newLinks, m_newDelay) else if (r_2.2.2.2 - 1000) = (r_1.2.2.2 - 1000) then some (false, r_2.2.1, r_2.2.2.1, r_2.2.2.2, m_newLinks, m_newDelay) else Option.bind (f_X12_pair (r_1.2.2.2 - 1000) (r_2.2.2.2 - 1000)) fun r_3 => ck (inb r_3 36) (if (m_newDelay r_3.toNatClampNeg) ≤ 0 then Option.bind (f_X12_isNumber N m_letterMany m_text r_2.2.1 1 9) fun r_4 => if (b2i r_4.1) = 0 then some (false, r_4.2.1, r_4.2.2.1, r_4.2.2.2, m_newLinks, m_newDelay) else Option.bind (f_X12_pair (r_1.2.2.2 - 1000) (r_2.2.2.2 - 1000)) fun r_5 => ck (inb r_5 36) (some (true, r_4.2.1, r_4.2.2.1, r_4.2.2.2, m_newLinks + 1, upd m_newDelay r_5.toNatClampNeg (r_4.2.2.2 - 1000))) else some (false, r_2.2.1, r_2.2.2.1, r_2.2.2.2, m_newLinks, m_newDelay))
abbrev rm_X12_readsLink : Room := { frames := 4, cells := 0, slots := 0, locals := 85 }
set_option maxRecDepth 100000 in
set_option maxHeartbeats 4000000 in
theorem k_X12_readsLink (l : Launch) (D : va_G) (cI cZ cK : ClassId) (N : Nat) (a0 a1 a2 a3 a4 a5 a6 a7 a8 a9 a10 a11 : Nat) (m_nodes : Int32) (m_every : Int32) (m_halves : Int32) (m_age : Int32) (m_life : Int32) (m_first : Int32) (m_undoMany : Int32) (m_undoAt : Int32) (m_letterMany : Int32) (m_readAt : Int32) (m_tokenAt : Int32) (m_token : Int32) (m_newNodes : Int32) (m_newEvery : Int32) (m_newHalves : Int32) (m_newAge : Int32) (m_newLife : Int32) (m_newFirst : Int32) (m_newLinks : Int32) (m_pathMany : Int32) (m_pathDelay : Int32) (m_seenMany : Int32) (m_text : ar) (m_newDelay : ar) (R : Bool × Int32 × Int32 × Int32 × Int32 × ar) (h : f_X12_readsLink N m_letterMany m_text m_readAt m_tokenAt m_token m_newNodes m_newLinks m_newDelay = some R) : Mu l D cI cZ cK yX12_readsLink cX12_readsLink 3 (some .boolean) rm_X12_readsLink [.ref a0] [(a0, .inr (12, [.int m_nodes, .int m_every, .int m_halves, .int m_age, .int m_life, .int m_first, .ref a1, .int m_undoMany, .int m_undoAt, .ref a2, .ref a3, .ref a4, .int m_letterMany, .ref a5, .int m_readAt, .int m_tokenAt, .int m_token, .int m_newNodes, .int m_newEvery, .int m_newHalves, .int m_newAge, .int m_newLife, .int m_newFirst, .int m_newLinks, .ref a6, .int m_pathMany, .int m_pathDelay, .ref a7, .ref a8, .int m_seenMany, .ref a9, .ref a10, .ref a11])), (a5, .inl (cI, 120, .inl m_text)), (a6, .inl (cI, 36, .inl m_newDelay))] (some (.int (b2i R.1))) [(a0, .inr (12, [.int m_nodes, .int m_every, .int m_halves, .int m_age, .int m_life, .int m_first, .ref a1, .int m_undoMany, .int m_undoAt, .ref a2, .ref a3, .ref a4, .int m_letterMany, .ref a5, .int R.2.1, .int R.2.2.1, .int R.2.2.2.1, .int m_newNodes, .int m_newEvery, .int m_newHalves, .int m_newAge, .int m_newLife, .int m_newFirst, .int R.2.2.2.2.1, .ref a6, .int m_pathMany, .int m_pathDelay, .ref a7, .ref a8, .int m_seenMany, .ref a9, .ref a10, .ref a11])), (a5, .inl (cI, 120, .inl m_text)), (a6, .inl (cI, 36, .inl R.2.2.2.2.2))] := by
  refine mi_of (by decide) (nar_b _) (Nat.le_of_ble_eq_true rfl) ?_
  intro p e s m args below meth c Q A ls hx hb hml hown hk hA w hret hl
  have hl : lv_has ls 3 [(0, .ref a0)] := hl
  obtain ⟨C0, hC0, h⟩ := sat_top h
  unfold f_X12_readsLink at h
  refine lv_aload_n hx hb dX12_readsLink_0 rfl (lv_at hl 0 rfl) ?_
  refine gf_X12_88 hx hb hown hk w.1 0 rfl rfl dX12_readsLink_1 ?_
  refine lv_bipush (v := 10) hx hb dX12_readsLink_4 (by decide) ?_
  refine lv_icmp_eq (tgt := 23) hx hb dX12_readsLink_6 (by decide) (fun c6 => ?_) (fun c6 => ?_)
  · have h := sat_t c6 h
    refine lv_iconst (v := 0) hx hb dX12_readsLink_23 (by decide) ?_
    have hR := hC0 _ (sat_some h)
    subst hR
    exact hret _ _ _ _ w dX12_readsLink_24
  · have h := sat_f c6 h
    refine lv_aload_n hx hb dX12_readsLink_9 rfl (lv_at hl 0 rfl) ?_
    refine lv_iconst (v := 0) hx hb dX12_readsLink_10 (by decide) ?_
    refine lv_aload_n hx hb dX12_readsLink_11 rfl (lv_at hl 0 rfl) ?_
    refine gf_X12_91 hx hb hown hk w.1 0 rfl rfl dX12_readsLink_12 ?_
    refine lv_iconst (v := 1) hx hb dX12_readsLink_15 (by decide) ?_
    refine lv_isub hx hb dX12_readsLink_16 ?_
    obtain ⟨r_1, e_1, h⟩ := sat_bind h
    refine cMV (rest := []) (wr := [(a6, .inl (cI, 36, .inl m_newDelay))]) (ws' := [(a0, .inr (12, [.int m_nodes, .int m_every, .int m_halves, .int m_age, .int m_life, .int m_first, .ref a1, .int m_undoMany, .int m_undoAt, .ref a2, .ref a3, .ref a4, .int m_letterMany, .ref a5, .int r_1.2.1, .int r_1.2.2.1, .int r_1.2.2.2, .int m_newNodes, .int m_newEvery, .int m_newHalves, .int m_newAge, .int m_newLife, .int m_newFirst, .int m_newLinks, .ref a6, .int m_pathMany, .int m_pathDelay, .ref a7, .ref a8, .int m_seenMany, .ref a9, .ref a10, .ref a11])), (a5, .inl (cI, 120, .inl m_text)), (a6, .inl (cI, 36, .inl m_newDelay))]) hx hb hml hown hk w hA (k_X12_isNumber l D cI cZ cK N a0 a1 a2 a3 a4 a5 a6 a7 a8 a9 a10 a11 m_nodes m_every m_halves m_age m_life m_first m_undoMany m_undoAt m_letterMany m_readAt m_tokenAt m_token m_newNodes m_newEvery m_newHalves m_newAge m_newLife m_newFirst m_newLinks m_pathMany m_pathDelay m_seenMany m_text 0 (m_newNodes - 1) r_1 e_1) (me_X12_isNumber hk.2.1) (mi_X12_isNumber hk.2.1) (ml_X12_94 hk.2.1) ((pmn 3 [0, 1, 2] rfl rfl (by decide))) ((pmn 3 [0, 1, 2] rfl rfl (by decide))) 0 rfl rfl rfl hl.1 rfl rfl (Nat.le_of_ble_eq_true rfl) ⟨rfl, rfl, Nat.le_of_ble_eq_true rfl, Nat.le_of_ble_eq_true rfl, Nat.zero_le _, Nat.zero_le _⟩ dX12_readsLink_17 (fun H locs w => ?_)
    refine W.eq (g2 := F0 m 20 ls [.int (b2i r_1.1)]) rfl ?_
    refine lv_if_ne (tgt := 25) hx hb dX12_readsLink_20 (by decide) (fun c20 => ?_) (fun c20 => ?_)
    · have h := sat_f c20 h
      refine lv_aload_n hx hb dX12_readsLink_25 rfl (lv_at hl 0 rfl) ?_
      refine gf_X12_78 hx hb hown hk w.1 0 rfl rfl dX12_readsLink_26 ?_
      refine lv_sipush (v := 1000) hx hb dX12_readsLink_29 (by decide) ?_
      refine lv_isub hx hb dX12_readsLink_32 ?_
      refine lv_istore_n (lv' := [(1, .int (r_1.2.2.2 - 1000)), (0, .ref a0)]) hx hb dX12_readsLink_33 rfl hl (by decide) rfl (fun ls hl => ?_)
      refine lv_aload_n hx hb dX12_readsLink_34 rfl (lv_at hl 1 rfl) ?_
      refine lv_iconst (v := 0) hx hb dX12_readsLink_35 (by decide) ?_
      refine lv_aload_n hx hb dX12_readsLink_36 rfl (lv_at hl 1 rfl) ?_
      refine gf_X12_91 hx hb hown hk w.1 0 rfl rfl dX12_readsLink_37 ?_
      refine lv_iconst (v := 1) hx hb dX12_readsLink_40 (by decide) ?_
      refine lv_isub hx hb dX12_readsLink_41 ?_
      obtain ⟨r_2, e_2, h⟩ := sat_bind h
      refine cMV (rest := []) (wr := [(a6, .inl (cI, 36, .inl m_newDelay))]) (ws' := [(a0, .inr (12, [.int m_nodes, .int m_every, .int m_halves, .int m_age, .int m_life, .int m_first, .ref a1, .int m_undoMany, .int m_undoAt, .ref a2, .ref a3, .ref a4, .int m_letterMany, .ref a5, .int r_2.2.1, .int r_2.2.2.1, .int r_2.2.2.2, .int m_newNodes, .int m_newEvery, .int m_newHalves, .int m_newAge, .int m_newLife, .int m_newFirst, .int m_newLinks, .ref a6, .int m_pathMany, .int m_pathDelay, .ref a7, .ref a8, .int m_seenMany, .ref a9, .ref a10, .ref a11])), (a5, .inl (cI, 120, .inl m_text)), (a6, .inl (cI, 36, .inl m_newDelay))]) hx hb hml hown hk w hA (k_X12_isNumber l D cI cZ cK N a0 a1 a2 a3 a4 a5 a6 a7 a8 a9 a10 a11 m_nodes m_every m_halves m_age m_life m_first m_undoMany m_undoAt m_letterMany r_1.2.1 r_1.2.2.1 r_1.2.2.2 m_newNodes m_newEvery m_newHalves m_newAge m_newLife m_newFirst m_newLinks m_pathMany m_pathDelay m_seenMany m_text 0 (m_newNodes - 1) r_2 e_2) (me_X12_isNumber hk.2.1) (mi_X12_isNumber hk.2.1) (ml_X12_94 hk.2.1) ((pmn 3 [0, 1, 2] rfl rfl (by decide))) ((pmn 3 [0, 1, 2] rfl rfl (by decide))) 0 rfl rfl rfl hl.1 rfl rfl (Nat.le_of_ble_eq_true rfl) ⟨rfl, rfl, Nat.le_of_ble_eq_true rfl, Nat.le_of_ble_eq_true rfl, Nat.zero_le _, Nat.zero_le _⟩ dX12_readsLink_42 (fun H locs w => ?_)
      refine W.eq (g2 := F0 m 45 ls [.int (b2i r_2.1)]) rfl ?_
      refine lv_if_eq (tgt := 80) hx hb dX12_readsLink_45 (by decide) (fun c45 => ?_) (fun c45 => ?_)
      · have h := sat_t c45 h
        refine lv_iconst (v := 0) hx hb dX12_readsLink_80 (by decide) ?_
        have hR := hC0 _ (sat_some h)
        subst hR
        exact hret _ _ _ _ w dX12_readsLink_81
      · have h := sat_f c45 h
        refine lv_aload_n hx hb dX12_readsLink_48 rfl (lv_at hl 1 rfl) ?_
        refine gf_X12_78 hx hb hown hk w.1 0 rfl rfl dX12_readsLink_49 ?_
        refine lv_sipush (v := 1000) hx hb dX12_readsLink_52 (by decide) ?_
        refine lv_isub hx hb dX12_readsLink_55 ?_
        refine lv_iload_n hx hb dX12_readsLink_56 rfl (lv_at hl 0 rfl) ?_
        refine lv_icmp_eq (tgt := 80) hx hb dX12_readsLink_57 (by decide) (fun c57 => ?_) (fun c57 => ?_)
        · have h := sat_t c57 h
          refine lv_iconst (v := 0) hx hb dX12_readsLink_80 (by decide) ?_
          have hR := hC0 _ (sat_some h)
          subst hR
          exact hret _ _ _ _ w dX12_readsLink_81
        · have h := sat_f c57 h
          refine lv_aload_n hx hb dX12_readsLink_60 rfl (lv_at hl 1 rfl) ?_
          refine gf_X12_36 hx hb hown hk w.1 0 rfl rfl dX12_readsLink_61 ?_
          refine lv_iload_n hx hb dX12_readsLink_64 rfl (lv_at hl 0 rfl) ?_
          refine lv_aload_n hx hb dX12_readsLink_65 rfl (lv_at hl 1 rfl) ?_
          refine gf_X12_78 hx hb hown hk w.1 0 rfl rfl dX12_readsLink_66 ?_
          refine lv_sipush (v := 1000) hx hb dX12_readsLink_69 (by decide) ?_
          refine lv_isub hx hb dX12_readsLink_72 ?_
          obtain ⟨r_3, e_3, h⟩ := sat_bind h
          refine cRS (rest := [.ref a6]) hx hb hml hown hk (k_X12_pair l D cI cZ cK (r_1.2.2.2 - 1000) (r_2.2.2.2 - 1000) r_3 e_3) (me_X12_pair hk.2.1) (ms_X12_pair hk.2.1) (ml_X12_62 hk.2.1) (w.1.sub [] rfl) hl.1 rfl rfl (Nat.le_of_ble_eq_true rfl) ⟨rfl, rfl, Nat.le_of_ble_eq_true rfl, Nat.le_of_ble_eq_true rfl, Nat.zero_le _, Nat.zero_le _⟩ dX12_readsLink_73 ?_
          obtain ⟨hi, h⟩ := sat_in h
          refine va_iald hx hb hk.1 w.1 2 0 rfl rfl hi dX12_readsLink_76 ?_
          refine lv_if_le (tgt := 82) hx hb dX12_readsLink_77 (by decide) (fun c77 => ?_) (fun c77 => ?_)
          · have h := sat_t c77 h
            refine lv_aload_n hx hb dX12_readsLink_82 rfl (lv_at hl 1 rfl) ?_
            refine gf_X12_78 hx hb hown hk w.1 0 rfl rfl dX12_readsLink_83 ?_
            refine lv_sipush (v := 1000) hx hb dX12_readsLink_86 (by decide) ?_
            refine lv_isub hx hb dX12_readsLink_89 ?_
            refine lv_istore_n (lv' := [(2, .int (r_2.2.2.2 - 1000)), (1, .int (r_1.2.2.2 - 1000)), (0, .ref a0)]) hx hb dX12_readsLink_90 rfl hl (by decide) rfl (fun ls hl => ?_)
            refine lv_aload_n hx hb dX12_readsLink_91 rfl (lv_at hl 2 rfl) ?_
            refine lv_iconst (v := 1) hx hb dX12_readsLink_92 (by decide) ?_
            refine lv_bipush (v := 9) hx hb dX12_readsLink_93 (by decide) ?_
            obtain ⟨r_4, e_4, h⟩ := sat_bind h
            refine cMV (rest := []) (wr := [(a6, .inl (cI, 36, .inl m_newDelay))]) (ws' := [(a0, .inr (12, [.int m_nodes, .int m_every, .int m_halves, .int m_age, .int m_life, .int m_first, .ref a1, .int m_undoMany, .int m_undoAt, .ref a2, .ref a3, .ref a4, .int m_letterMany, .ref a5, .int r_4.2.1, .int r_4.2.2.1, .int r_4.2.2.2, .int m_newNodes, .int m_newEvery, .int m_newHalves, .int m_newAge, .int m_newLife, .int m_newFirst, .int m_newLinks, .ref a6, .int m_pathMany, .int m_pathDelay, .ref a7, .ref a8, .int m_seenMany, .ref a9, .ref a10, .ref a11])), (a5, .inl (cI, 120, .inl m_text)), (a6, .inl (cI, 36, .inl m_newDelay))]) hx hb hml hown hk w hA (k_X12_isNumber l D cI cZ cK N a0 a1 a2 a3 a4 a5 a6 a7 a8 a9 a10 a11 m_nodes m_every m_halves m_age m_life m_first m_undoMany m_undoAt m_letterMany r_2.2.1 r_2.2.2.1 r_2.2.2.2 m_newNodes m_newEvery m_newHalves m_newAge m_newLife m_newFirst m_newLinks m_pathMany m_pathDelay m_seenMany m_text 1 9 r_4 e_4) (me_X12_isNumber hk.2.1) (mi_X12_isNumber hk.2.1) (ml_X12_94 hk.2.1) ((pmn 3 [0, 1, 2] rfl rfl (by decide))) ((pmn 3 [0, 1, 2] rfl rfl (by decide))) 0 rfl rfl rfl hl.1 rfl rfl (Nat.le_of_ble_eq_true rfl) ⟨rfl, rfl, Nat.le_of_ble_eq_true rfl, Nat.le_of_ble_eq_true rfl, Nat.zero_le _, Nat.zero_le _⟩ dX12_readsLink_95 (fun H locs w => ?_)
            refine W.eq (g2 := F0 m 98 ls [.int (b2i r_4.1)]) rfl ?_
            refine lv_if_ne (tgt := 103) hx hb dX12_readsLink_98 (by decide) (fun c98 => ?_) (fun c98 => ?_)
            · have h := sat_f c98 h
              refine lv_aload_n hx hb dX12_readsLink_103 rfl (lv_at hl 2 rfl) ?_
              refine gf_X12_36 hx hb hown hk w.1 0 rfl rfl dX12_readsLink_104 ?_
              refine lv_iload_n hx hb dX12_readsLink_107 rfl (lv_at hl 1 rfl) ?_
              refine lv_iload_n hx hb dX12_readsLink_108 rfl (lv_at hl 0 rfl) ?_
              obtain ⟨r_5, e_5, h⟩ := sat_bind h
              refine cRS (rest := [.ref a6]) hx hb hml hown hk (k_X12_pair l D cI cZ cK (r_1.2.2.2 - 1000) (r_2.2.2.2 - 1000) r_5 e_5) (me_X12_pair hk.2.1) (ms_X12_pair hk.2.1) (ml_X12_62 hk.2.1) (w.1.sub [] rfl) hl.1 rfl rfl (Nat.le_of_ble_eq_true rfl) ⟨rfl, rfl, Nat.le_of_ble_eq_true rfl, Nat.le_of_ble_eq_true rfl, Nat.zero_le _, Nat.zero_le _⟩ dX12_readsLink_109 ?_
              refine lv_aload_n hx hb dX12_readsLink_112 rfl (lv_at hl 2 rfl) ?_
              refine gf_X12_78 hx hb hown hk w.1 0 rfl rfl dX12_readsLink_113 ?_
              refine lv_sipush (v := 1000) hx hb dX12_readsLink_116 (by decide) ?_
              refine lv_isub hx hb dX12_readsLink_119 ?_
              obtain ⟨hi, h⟩ := sat_in h
              refine ra_ist (ws' := [(a0, .inr (12, [.int m_nodes, .int m_every, .int m_halves, .int m_age, .int m_life, .int m_first, .ref a1, .int m_undoMany, .int m_undoAt, .ref a2, .ref a3, .ref a4, .int m_letterMany, .ref a5, .int r_4.2.1, .int r_4.2.2.1, .int r_4.2.2.2, .int m_newNodes, .int m_newEvery, .int m_newHalves, .int m_newAge, .int m_newLife, .int m_newFirst, .int m_newLinks, .ref a6, .int m_pathMany, .int m_pathDelay, .ref a7, .ref a8, .int m_seenMany, .ref a9, .ref a10, .ref a11])), (a5, .inl (cI, 120, .inl m_text)), (a6, .inl (cI, 36, .inl (upd m_newDelay r_5.toNatClampNeg (r_4.2.2.2 - 1000))))]) hx hb hk w 2 rfl hi rfl dX12_readsLink_120 (fun H locs w => ?_)
              refine lv_aload_n hx hb dX12_readsLink_121 rfl (lv_at hl 2 rfl) ?_
              refine lv_dup hx hb dX12_readsLink_122 rfl ?_
              refine gf_X12_88 hx hb hown hk w.1 0 rfl rfl dX12_readsLink_123 ?_
              refine lv_iconst (v := 1) hx hb dX12_readsLink_126 (by decide) ?_
              refine lv_iadd hx hb dX12_readsLink_127 ?_
              refine pf_X12_88 (ws' := [(a0, .inr (12, [.int m_nodes, .int m_every, .int m_halves, .int m_age, .int m_life, .int m_first, .ref a1, .int m_undoMany, .int m_undoAt, .ref a2, .ref a3, .ref a4, .int m_letterMany, .ref a5, .int r_4.2.1, .int r_4.2.2.1, .int r_4.2.2.2, .int m_newNodes, .int m_newEvery, .int m_newHalves, .int m_newAge, .int m_newLife, .int m_newFirst, .int (m_newLinks + 1), .ref a6, .int m_pathMany, .int m_pathDelay, .ref a7, .ref a8, .int m_seenMany, .ref a9, .ref a10, .ref a11])), (a5, .inl (cI, 120, .inl m_text)), (a6, .inl (cI, 36, .inl (upd m_newDelay r_5.toNatClampNeg (r_4.2.2.2 - 1000))))]) hx hb hown hk w 0 rfl (Nat.le_of_ble_eq_true rfl) rfl dX12_readsLink_128 (fun H locs w => ?_)
              refine lv_iconst (v := 1) hx hb dX12_readsLink_131 (by decide) ?_
              have hR := hC0 _ (sat_some h)
              subst hR
              exact hret _ _ _ _ w dX12_readsLink_132
            · have h := sat_t c98 h
              refine lv_iconst (v := 0) hx hb dX12_readsLink_101 (by decide) ?_
              have hR := hC0 _ (sat_some h)
              subst hR
              exact hret _ _ _ _ w dX12_readsLink_102
          · have h := sat_f c77 h
            refine lv_iconst (v := 0) hx hb dX12_readsLink_80 (by decide) ?_
            have hR := hC0 _ (sat_some h)
            subst hR
            exact hret _ _ _ _ w dX12_readsLink_81
    · have h := sat_t c20 h
      refine lv_iconst (v := 0) hx hb dX12_readsLink_23 (by decide) ?_
      have hR := hC0 _ (sat_some h)
      subst hR
      exact hret _ _ _ _ w dX12_readsLink_24
def f_X12_readsItem (N : Nat) (m_letterMany : Int32) (m_text : ar) (m_readAt : Int32) (m_newNodes : Int32) (m_newEvery : Int32) (m_newHalves : Int32) (m_newAge : Int32) (m_newLife : Int32) (m_newFirst : Int32) (m_newLinks : Int32) (m_newDelay : ar) (x1 : Int32) : Option (Bool × Int32 × Int32 × Int32 × Int32 × Int32 × Int32 × Int32 × Int32 × Int32 × Int32 × ar) := Option.bind (f_X12_next N m_letterMany m_text m_readAt) fun r_1 => if r_1.2.2 = 97 then Option.bind (f_X12_isNumber N m_letterMany m_text r_1.1 1 99) fun r_2 => if (b2i r_2.1) = 0 then some (false, r_2.2.1, r_2.2.2.1, r_2.2.2.2, m_newNodes, m_newEvery, m_newHalves, r_2.2.2.2 - 1000, m_newLife, m_newFirst, m_newLinks, m_newDelay) else Option.bind (f_X12_next N m_letterMany m_text r_2.2.1) fun r_3 => if r_3.2.2 = 59 then some (true, r_3.1, r_3.2.1, r_3.2.2, m_newNodes, m_newEvery, m_newHalves, r_2.2.2.2 - 1000, m_newLife, m_newFirst, m_newLinks, m_newDelay) else some (false, r_3.1, r_3.2.1, r_3.2.2, m_newNodes, m_newEvery, m_newHalves, r_2.2.2.2 - 1000, m_newLife, m_newFirst, m_newLinks, m_newDelay) else if r_1.2.2 = 101 then Option.bind (f_X12_readsLink N m_letterMany m_text r_1.1 r_1.2.1 r_1.2.2 m_newNodes m_newLinks m_newDelay) fun r_4 => if (b2i r_4.1) = 0 then some (false, r_4.2.1, r_4.2.2.1, r_4.2.2.2.1, m_newNodes, m_newEvery, m_newHalves, m_newAge, m_newLife, m_newFirst, r_4.2.2.2.2.1, r_4.2.2.2.2.2) else Option.bind (f_X12_next N m_letterMany m_text r_4.2.1) fun r_5 => if r_5.2.2 = 59 then some (true, r_5.1, r_5.2.1, r_5.2.2, m_newNodes, m_newEvery, m_newHalves, m_newAge, m_newLife, m_newFirst, r_4.2.2.2.2.1, r_4.2.2.2.2.2) else some (false, r_5.1, r_5.2.1, r_5.2.2, m_newNodes, m_newEvery, m_newHalves, m_newAge, m_newLife, m_newFirst, r_4.2.2.2.2.1, r_4.2.2.2.2.2) else if r_1.2.2 = 102 then Option.bind (f_X12_isNumber N m_letterMany m_text r_1.1 0 99) fun r_6 => if (b2i r_6.1) = 0 then some (false, r_6.2.1, r_6.2.2.1, r_6.2.2.2, m_newNodes, m_newEvery, m_newHalves, m_newAge, m_newLife, r_6.2.2.2 - 1000, m_newLinks, m_newDelay) else Option.bind (f_X12_next N m_letterMany m_text r_6.2.1) fun r_7 => if r_7.2.2 = 59 then some (true, r_7.1, r_7.2.1, r_7.2.2, m_newNodes, m_newEvery, m_newHalves, m_newAge, m_newLife, r_6.2.2.2 - 1000, m_newLinks, m_newDelay) else some (false, r_7.1, r_7.2.1, r_7.2.2, m_newNodes, m_newEvery, m_newHalves, m_newAge, m_newLife, r_6.2.2.2 - 1000, m_newLinks, m_newDelay) else if r_1.2.2 = 104 then Option.bind (f_X12_isNumber N m_letterMany m_text r_1.1 0 3) fun r_8 => if (b2i r_8.1) = 0 then some (false, r_8.2.1, r_8.2.2.1, r_8.2.2.2, m_newNodes, m_newEvery, r_8.2.2.2 - 1000, m_newAge, m_newLife, m_newFirst, m_newLinks, m_newDelay) else Option.bind (f_X12_next N m_letterMany m_text r_8.2.1) fun r_9 => if r_9.2.2 = 59 then some (true, r_9.1, r_9.2.1, r_9.2.2, m_newNodes, m_newEvery, r_8.2.2.2 - 1000, m_newAge, m_newLife, m_newFirst, m_newLinks, m_newDelay) else some (false, r_9.1, r_9.2.1, r_9.2.2, m_newNodes, m_newEvery, r_8.2.2.2 - 1000, m_newAge, m_newLife, m_newFirst, m_newLinks, m_newDelay) else if r_1.2.2 = 108 then Option.bind (f_X12_isNumber N m_letterMany m_text r_1.1 1 99) fun r_10 => if (b2i r_10.1) = 0 then some (false, r_10.2.1, r_10.2.2.1, r_10.2.2.2, m_newNodes, m_newEvery, m_newHalves, m_newAge, r_10.2.2.2 - 1000, m_newFirst, m_newLinks, m_newDelay) else Option.bind (f_X12_next N m_letterMany m_text r_10.2.1) fun r_11 => if r_11.2.2 = 59 then some (true, r_11.1, r_11.2.1, r_11.2.2, m_newNodes, m_newEvery, m_newHalves, m_newAge, r_10.2.2.2 - 1000, m_newFirst, m_newLinks, m_newDelay) else some (false, r_11.1, r_11.2.1, r_11.2.2, m_newNodes, m_newEvery, m_newHalves, m_newAge, r_10.2.2.2 - 1000, m_newFirst, m_newLinks, m_newDelay) else if r_1.2.2 = 110 then Option.bind (α := Int32 × Int32 × Int32 × Int32) (if x1 = 0 then Option.bind (f_X12_isNumber N m_letterMany m_text r_1.1 2 6) fun r_18 => if (b2i r_18.1) = 0 then some (0, r_18.2.1, r_18.2.2.1, r_18.2.2.2) else some (1, r_18.2.1, r_18.2.2.1, r_18.2.2.2) else some (0, r_1.1, r_1.2.1, r_1.2.2)) fun j121 => Option.bind (α := Int32) (if j121.1 = 0 then some m_newNodes else some (j121.2.2.2 - 1000)) fun j142 => if j121.1 = 0 then some (false, j121.2.1, j121.2.2.1, j121.2.2.2, j142, m_newEvery, m_newHalves, m_newAge, m_newLife, m_newFirst, m_newLinks, m_newDelay) else Option.bind (f_X12_next N m_letterMany m_text j121.2.1) fun r_17 => if r_17.2.2 = 59 then some (true, r_17.1, r_17.2.1, r_17.2.2, j142, m_newEvery, m_newHalves, m_newAge, m_newLife, m_newFirst, m_newLinks, m_newDelay) else some (false, r_17.1, r_17.2.1, r_17.2.2, j142, m_newEvery, m_newHalves, m_newAge, m_newLife, m_newFirst, m_newLinks, m_newDelay) else if r_1.2.2 = 120 then Option.bind (f_X12_isNumber N m_letterMany m_text r_1.1 0 9) fun r_19 => if (b2i r_19.1) = 0 then some (false, r_19.2.1, r_19.2.2.1, r_19.2.2.2, m_newNodes, r_19.2.2.2 - 1000, m_newHalves, m_newAge, m_newLife, m_newFirst, m_newLinks, m_newDelay) else Option.bind (f_X12_next N m_letterMany m_text r_19.2.1) fun r_20 => if r_20.2.2 = 59 then some (true, r_20.1, r_20.2.1, r_20.2.2, m_newNodes, r_19.2.2.2 - 1000, m_newHalves, m_newAge, m_newLife, m_newFirst, m_newLinks, m_newDelay) else some (false, r_20.1, r_20.2.1, r_20.2.2, m_newNodes, r_19.2.2.2 - 1000, m_newHalves, m_newAge, m_newLife, m_newFirst, m_newLinks, m_newDelay) else some (false, r_1.1, r_1.2.1, r_1.2.2, m_newNodes, m_newEvery, m_newHalves, m_newAge, m_newLife, m_newFirst, m_newLinks, m_newDelay)
abbrev rm_X12_readsItem : Room := { frames := 5, cells := 0, slots := 0, locals := 107 }
set_option maxRecDepth 100000 in
set_option maxHeartbeats 4000000 in
theorem k_X12_readsItem (l : Launch) (D : va_G) (cI cZ cK : ClassId) (N : Nat) (a0 a1 a2 a3 a4 a5 a6 a7 a8 a9 a10 a11 : Nat) (m_nodes : Int32) (m_every : Int32) (m_halves : Int32) (m_age : Int32) (m_life : Int32) (m_first : Int32) (m_undoMany : Int32) (m_undoAt : Int32) (m_letterMany : Int32) (m_readAt : Int32) (m_tokenAt : Int32) (m_token : Int32) (m_newNodes : Int32) (m_newEvery : Int32) (m_newHalves : Int32) (m_newAge : Int32) (m_newLife : Int32) (m_newFirst : Int32) (m_newLinks : Int32) (m_pathMany : Int32) (m_pathDelay : Int32) (m_seenMany : Int32) (m_text : ar) (m_newDelay : ar) (x1 : Int32) (R : Bool × Int32 × Int32 × Int32 × Int32 × Int32 × Int32 × Int32 × Int32 × Int32 × Int32 × ar) (h : f_X12_readsItem N m_letterMany m_text m_readAt m_newNodes m_newEvery m_newHalves m_newAge m_newLife m_newFirst m_newLinks m_newDelay x1 = some R) : Mu l D cI cZ cK yX12_readsItem cX12_readsItem 3 (some .boolean) rm_X12_readsItem [.ref a0, .int x1] [(a0, .inr (12, [.int m_nodes, .int m_every, .int m_halves, .int m_age, .int m_life, .int m_first, .ref a1, .int m_undoMany, .int m_undoAt, .ref a2, .ref a3, .ref a4, .int m_letterMany, .ref a5, .int m_readAt, .int m_tokenAt, .int m_token, .int m_newNodes, .int m_newEvery, .int m_newHalves, .int m_newAge, .int m_newLife, .int m_newFirst, .int m_newLinks, .ref a6, .int m_pathMany, .int m_pathDelay, .ref a7, .ref a8, .int m_seenMany, .ref a9, .ref a10, .ref a11])), (a5, .inl (cI, 120, .inl m_text)), (a6, .inl (cI, 36, .inl m_newDelay))] (some (.int (b2i R.1))) [(a0, .inr (12, [.int m_nodes, .int m_every, .int m_halves, .int m_age, .int m_life, .int m_first, .ref a1, .int m_undoMany, .int m_undoAt, .ref a2, .ref a3, .ref a4, .int m_letterMany, .ref a5, .int R.2.1, .int R.2.2.1, .int R.2.2.2.1, .int R.2.2.2.2.1, .int R.2.2.2.2.2.1, .int R.2.2.2.2.2.2.1, .int R.2.2.2.2.2.2.2.1, .int R.2.2.2.2.2.2.2.2.1, .int R.2.2.2.2.2.2.2.2.2.1, .int R.2.2.2.2.2.2.2.2.2.2.1, .ref a6, .int m_pathMany, .int m_pathDelay, .ref a7, .ref a8, .int m_seenMany, .ref a9, .ref a10, .ref a11])), (a5, .inl (cI, 120, .inl m_text)), (a6, .inl (cI, 36, .inl R.2.2.2.2.2.2.2.2.2.2.2))] := by
  refine mi_of (by decide) (nar_b _) (Nat.le_of_ble_eq_true rfl) ?_
  intro p e s m args below meth c Q A ls hx hb hml hown hk hA w hret hl
  have hl : lv_has ls 3 [(0, .ref a0), (1, .int x1)] := hl
  obtain ⟨C0, hC0, h⟩ := sat_top h
  unfold f_X12_readsItem at h
  refine lv_aload_n hx hb dX12_readsItem_0 rfl (lv_at hl 0 rfl) ?_
  obtain ⟨r_1, e_1, h⟩ := sat_bind h
  refine cMV (rest := []) (wr := [(a6, .inl (cI, 36, .inl m_newDelay))]) (ws' := [(a0, .inr (12, [.int m_nodes, .int m_every, .int m_halves, .int m_age, .int m_life, .int m_first, .ref a1, .int m_undoMany, .int m_undoAt, .ref a2, .ref a3, .ref a4, .int m_letterMany, .ref a5, .int r_1.1, .int r_1.2.1, .int r_1.2.2, .int m_newNodes, .int m_newEvery, .int m_newHalves, .int m_newAge, .int m_newLife, .int m_newFirst, .int m_newLinks, .ref a6, .int m_pathMany, .int m_pathDelay, .ref a7, .ref a8, .int m_seenMany, .ref a9, .ref a10, .ref a11])), (a5, .inl (cI, 120, .inl m_text)), (a6, .inl (cI, 36, .inl m_newDelay))]) hx hb hml hown hk w hA (k_X12_next l D cI cZ cK N a0 a1 a2 a3 a4 a5 a6 a7 a8 a9 a10 a11 m_nodes m_every m_halves m_age m_life m_first m_undoMany m_undoAt m_letterMany m_readAt m_tokenAt m_token m_newNodes m_newEvery m_newHalves m_newAge m_newLife m_newFirst m_newLinks m_pathMany m_pathDelay m_seenMany m_text r_1 e_1) (me_X12_next hk.2.1) (mi_X12_next hk.2.1) (ml_X12_85 hk.2.1) ((pmn 3 [0, 1, 2] rfl rfl (by decide))) ((pmn 3 [0, 1, 2] rfl rfl (by decide))) 0 rfl rfl rfl hl.1 rfl rfl (Nat.le_of_ble_eq_true rfl) ⟨rfl, rfl, Nat.le_of_ble_eq_true rfl, Nat.le_of_ble_eq_true rfl, Nat.zero_le _, Nat.zero_le _⟩ dX12_readsItem_1 (fun H locs w => ?_)
  refine W.eq (g2 := F0 m 4 ls []) rfl ?_
  refine lv_iconst (v := 1) hx hb dX12_readsItem_4 (by decide) ?_
  refine lv_istore_n (lv' := [(2, .int 1), (0, .ref a0), (1, .int x1)]) hx hb dX12_readsItem_5 rfl hl (by decide) rfl (fun ls hl => ?_)
  refine lv_aload_n hx hb dX12_readsItem_6 rfl (lv_at hl 1 rfl) ?_
  refine gf_X12_78 hx hb hown hk w.1 0 rfl rfl dX12_readsItem_7 ?_
  by_cases c10_97 : r_1.2.2 = 97
  · have h := sat_t c10_97 h
    refine lv_tableIn (off := 209) (tgt := 219) hx hb dX12_readsItem_10 (by rw [c10_97]; decide) (by rw [c10_97]; decide) (by rw [c10_97]; decide) (by decide) ?_
    refine lv_aload_n hx hb dX12_readsItem_219 rfl (lv_at hl 1 rfl) ?_
    refine lv_iconst (v := 1) hx hb dX12_readsItem_220 (by decide) ?_
    refine lv_bipush (v := 99) hx hb dX12_readsItem_221 (by decide) ?_
    obtain ⟨r_2, e_2, h⟩ := sat_bind h
    refine cMV (rest := []) (wr := [(a6, .inl (cI, 36, .inl m_newDelay))]) (ws' := [(a0, .inr (12, [.int m_nodes, .int m_every, .int m_halves, .int m_age, .int m_life, .int m_first, .ref a1, .int m_undoMany, .int m_undoAt, .ref a2, .ref a3, .ref a4, .int m_letterMany, .ref a5, .int r_2.2.1, .int r_2.2.2.1, .int r_2.2.2.2, .int m_newNodes, .int m_newEvery, .int m_newHalves, .int m_newAge, .int m_newLife, .int m_newFirst, .int m_newLinks, .ref a6, .int m_pathMany, .int m_pathDelay, .ref a7, .ref a8, .int m_seenMany, .ref a9, .ref a10, .ref a11])), (a5, .inl (cI, 120, .inl m_text)), (a6, .inl (cI, 36, .inl m_newDelay))]) hx hb hml hown hk w hA (k_X12_isNumber l D cI cZ cK N a0 a1 a2 a3 a4 a5 a6 a7 a8 a9 a10 a11 m_nodes m_every m_halves m_age m_life m_first m_undoMany m_undoAt m_letterMany r_1.1 r_1.2.1 r_1.2.2 m_newNodes m_newEvery m_newHalves m_newAge m_newLife m_newFirst m_newLinks m_pathMany m_pathDelay m_seenMany m_text 1 99 r_2 e_2) (me_X12_isNumber hk.2.1) (mi_X12_isNumber hk.2.1) (ml_X12_94 hk.2.1) ((pmn 3 [0, 1, 2] rfl rfl (by decide))) ((pmn 3 [0, 1, 2] rfl rfl (by decide))) 0 rfl rfl rfl hl.1 rfl rfl (Nat.le_of_ble_eq_true rfl) ⟨rfl, rfl, Nat.le_of_ble_eq_true rfl, Nat.le_of_ble_eq_true rfl, Nat.zero_le _, Nat.zero_le _⟩ dX12_readsItem_223 (fun H locs w => ?_)
    refine W.eq (g2 := F0 m 226 ls [.int (b2i r_2.1)]) rfl ?_
    refine lv_istore_n (lv' := [(2, .int (b2i r_2.1)), (0, .ref a0), (1, .int x1)]) hx hb dX12_readsItem_226 rfl hl (by decide) rfl (fun ls hl => ?_)
    refine lv_aload_n hx hb dX12_readsItem_227 rfl (lv_at hl 1 rfl) ?_
    refine lv_aload_n hx hb dX12_readsItem_228 rfl (lv_at hl 1 rfl) ?_
    refine gf_X12_78 hx hb hown hk w.1 0 rfl rfl dX12_readsItem_229 ?_
    refine lv_sipush (v := 1000) hx hb dX12_readsItem_232 (by decide) ?_
    refine lv_isub hx hb dX12_readsItem_235 ?_
    refine pf_X12_107 (ws' := [(a0, .inr (12, [.int m_nodes, .int m_every, .int m_halves, .int m_age, .int m_life, .int m_first, .ref a1, .int m_undoMany, .int m_undoAt, .ref a2, .ref a3, .ref a4, .int m_letterMany, .ref a5, .int r_2.2.1, .int r_2.2.2.1, .int r_2.2.2.2, .int m_newNodes, .int m_newEvery, .int m_newHalves, .int (r_2.2.2.2 - 1000), .int m_newLife, .int m_newFirst, .int m_newLinks, .ref a6, .int m_pathMany, .int m_pathDelay, .ref a7, .ref a8, .int m_seenMany, .ref a9, .ref a10, .ref a11])), (a5, .inl (cI, 120, .inl m_text)), (a6, .inl (cI, 36, .inl m_newDelay))]) hx hb hown hk w 0 rfl (Nat.le_of_ble_eq_true rfl) rfl dX12_readsItem_236 (fun H locs w => ?_)
    refine lv_goto (tgt := 290) hx hb dX12_readsItem_239 (by decide) ?_
    refine lv_iload_n hx hb dX12_readsItem_290 rfl (lv_at hl 0 rfl) ?_
    refine lv_if_ne (tgt := 296) hx hb dX12_readsItem_291 (by decide) (fun c291 => ?_) (fun c291 => ?_)
    · have h := sat_f c291 h
      refine lv_aload_n hx hb dX12_readsItem_296 rfl (lv_at hl 1 rfl) ?_
      obtain ⟨r_3, e_3, h⟩ := sat_bind h
      refine cMV (rest := []) (wr := [(a6, .inl (cI, 36, .inl m_newDelay))]) (ws' := [(a0, .inr (12, [.int m_nodes, .int m_every, .int m_halves, .int m_age, .int m_life, .int m_first, .ref a1, .int m_undoMany, .int m_undoAt, .ref a2, .ref a3, .ref a4, .int m_letterMany, .ref a5, .int r_3.1, .int r_3.2.1, .int r_3.2.2, .int m_newNodes, .int m_newEvery, .int m_newHalves, .int (r_2.2.2.2 - 1000), .int m_newLife, .int m_newFirst, .int m_newLinks, .ref a6, .int m_pathMany, .int m_pathDelay, .ref a7, .ref a8, .int m_seenMany, .ref a9, .ref a10, .ref a11])), (a5, .inl (cI, 120, .inl m_text)), (a6, .inl (cI, 36, .inl m_newDelay))]) hx hb hml hown hk w hA (k_X12_next l D cI cZ cK N a0 a1 a2 a3 a4 a5 a6 a7 a8 a9 a10 a11 m_nodes m_every m_halves m_age m_life m_first m_undoMany m_undoAt m_letterMany r_2.2.1 r_2.2.2.1 r_2.2.2.2 m_newNodes m_newEvery m_newHalves (r_2.2.2.2 - 1000) m_newLife m_newFirst m_newLinks m_pathMany m_pathDelay m_seenMany m_text r_3 e_3) (me_X12_next hk.2.1) (mi_X12_next hk.2.1) (ml_X12_85 hk.2.1) ((pmn 3 [0, 1, 2] rfl rfl (by decide))) ((pmn 3 [0, 1, 2] rfl rfl (by decide))) 0 rfl rfl rfl hl.1 rfl rfl (Nat.le_of_ble_eq_true rfl) ⟨rfl, rfl, Nat.le_of_ble_eq_true rfl, Nat.le_of_ble_eq_true rfl, Nat.zero_le _, Nat.zero_le _⟩ dX12_readsItem_297 (fun H locs w => ?_)
      refine W.eq (g2 := F0 m 300 ls []) rfl ?_
      refine lv_aload_n hx hb dX12_readsItem_300 rfl (lv_at hl 1 rfl) ?_
      refine gf_X12_78 hx hb hown hk w.1 0 rfl rfl dX12_readsItem_301 ?_
      refine lv_bipush (v := 59) hx hb dX12_readsItem_304 (by decide) ?_
      refine lv_icmp_ne (tgt := 313) hx hb dX12_readsItem_306 (by decide) (fun c306 => ?_) (fun c306 => ?_)
      · have h := sat_f c306 h
        refine lv_iconst (v := 0) hx hb dX12_readsItem_313 (by decide) ?_
        have hR := hC0 _ (sat_some h)
        subst hR
        exact hret _ _ _ _ w dX12_readsItem_314
      · have h := sat_t c306 h
        refine lv_iconst (v := 1) hx hb dX12_readsItem_309 (by decide) ?_
        refine lv_goto (tgt := 314) hx hb dX12_readsItem_310 (by decide) ?_
        have hR := hC0 _ (sat_some h)
        subst hR
        exact hret _ _ _ _ w dX12_readsItem_314
    · have h := sat_t c291 h
      refine lv_iconst (v := 0) hx hb dX12_readsItem_294 (by decide) ?_
      have hR := hC0 _ (sat_some h)
      subst hR
      exact hret _ _ _ _ w dX12_readsItem_295
  have h := sat_f c10_97 h
  have nc10_97 := ne_ti (z := 97) c10_97 (by decide)
  by_cases c10_98 : r_1.2.2 = 98
  · have h := sat_f (show ¬ r_1.2.2 = 101 from by rw [c10_98]; decide) h
    have h := sat_f (show ¬ r_1.2.2 = 102 from by rw [c10_98]; decide) h
    have h := sat_f (show ¬ r_1.2.2 = 104 from by rw [c10_98]; decide) h
    have h := sat_f (show ¬ r_1.2.2 = 108 from by rw [c10_98]; decide) h
    have h := sat_f (show ¬ r_1.2.2 = 110 from by rw [c10_98]; decide) h
    have h := sat_f (show ¬ r_1.2.2 = 120 from by rw [c10_98]; decide) h
    refine lv_tableIn (off := 278) (tgt := 288) hx hb dX12_readsItem_10 (by rw [c10_98]; decide) (by rw [c10_98]; decide) (by rw [c10_98]; decide) (by decide) ?_
    refine lv_iconst (v := 0) hx hb dX12_readsItem_288 (by decide) ?_
    have hR := hC0 _ (sat_some h)
    subst hR
    exact hret _ _ _ _ w dX12_readsItem_289
  have nc10_98 := ne_ti (z := 98) c10_98 (by decide)
  by_cases c10_99 : r_1.2.2 = 99
  · have h := sat_f (show ¬ r_1.2.2 = 101 from by rw [c10_99]; decide) h
    have h := sat_f (show ¬ r_1.2.2 = 102 from by rw [c10_99]; decide) h
    have h := sat_f (show ¬ r_1.2.2 = 104 from by rw [c10_99]; decide) h
    have h := sat_f (show ¬ r_1.2.2 = 108 from by rw [c10_99]; decide) h
    have h := sat_f (show ¬ r_1.2.2 = 110 from by rw [c10_99]; decide) h
    have h := sat_f (show ¬ r_1.2.2 = 120 from by rw [c10_99]; decide) h
    refine lv_tableIn (off := 278) (tgt := 288) hx hb dX12_readsItem_10 (by rw [c10_99]; decide) (by rw [c10_99]; decide) (by rw [c10_99]; decide) (by decide) ?_
    refine lv_iconst (v := 0) hx hb dX12_readsItem_288 (by decide) ?_
    have hR := hC0 _ (sat_some h)
    subst hR
    exact hret _ _ _ _ w dX12_readsItem_289
  have nc10_99 := ne_ti (z := 99) c10_99 (by decide)
  by_cases c10_100 : r_1.2.2 = 100
  · have h := sat_f (show ¬ r_1.2.2 = 101 from by rw [c10_100]; decide) h
    have h := sat_f (show ¬ r_1.2.2 = 102 from by rw [c10_100]; decide) h
    have h := sat_f (show ¬ r_1.2.2 = 104 from by rw [c10_100]; decide) h
    have h := sat_f (show ¬ r_1.2.2 = 108 from by rw [c10_100]; decide) h
    have h := sat_f (show ¬ r_1.2.2 = 110 from by rw [c10_100]; decide) h
    have h := sat_f (show ¬ r_1.2.2 = 120 from by rw [c10_100]; decide) h
    refine lv_tableIn (off := 278) (tgt := 288) hx hb dX12_readsItem_10 (by rw [c10_100]; decide) (by rw [c10_100]; decide) (by rw [c10_100]; decide) (by decide) ?_
    refine lv_iconst (v := 0) hx hb dX12_readsItem_288 (by decide) ?_
    have hR := hC0 _ (sat_some h)
    subst hR
    exact hret _ _ _ _ w dX12_readsItem_289
  have nc10_100 := ne_ti (z := 100) c10_100 (by decide)
  by_cases c10_101 : r_1.2.2 = 101
  · have h := sat_t c10_101 h
    refine lv_tableIn (off := 156) (tgt := 166) hx hb dX12_readsItem_10 (by rw [c10_101]; decide) (by rw [c10_101]; decide) (by rw [c10_101]; decide) (by decide) ?_
    refine lv_aload_n hx hb dX12_readsItem_166 rfl (lv_at hl 1 rfl) ?_
    obtain ⟨r_4, e_4, h⟩ := sat_bind h
    refine cMV (rest := []) (wr := []) (ws' := [(a0, .inr (12, [.int m_nodes, .int m_every, .int m_halves, .int m_age, .int m_life, .int m_first, .ref a1, .int m_undoMany, .int m_undoAt, .ref a2, .ref a3, .ref a4, .int m_letterMany, .ref a5, .int r_4.2.1, .int r_4.2.2.1, .int r_4.2.2.2.1, .int m_newNodes, .int m_newEvery, .int m_newHalves, .int m_newAge, .int m_newLife, .int m_newFirst, .int r_4.2.2.2.2.1, .ref a6, .int m_pathMany, .int m_pathDelay, .ref a7, .ref a8, .int m_seenMany, .ref a9, .ref a10, .ref a11])), (a5, .inl (cI, 120, .inl m_text)), (a6, .inl (cI, 36, .inl r_4.2.2.2.2.2))]) hx hb hml hown hk w hA (k_X12_readsLink l D cI cZ cK N a0 a1 a2 a3 a4 a5 a6 a7 a8 a9 a10 a11 m_nodes m_every m_halves m_age m_life m_first m_undoMany m_undoAt m_letterMany r_1.1 r_1.2.1 r_1.2.2 m_newNodes m_newEvery m_newHalves m_newAge m_newLife m_newFirst m_newLinks m_pathMany m_pathDelay m_seenMany m_text m_newDelay r_4 e_4) (me_X12_readsLink hk.2.1) (mi_X12_readsLink hk.2.1) (ml_X12_98 hk.2.1) ((pmn 3 [0, 1, 2] rfl rfl (by decide))) ((pmn 3 [0, 1, 2] rfl rfl (by decide))) 0 rfl rfl rfl hl.1 rfl rfl (Nat.le_of_ble_eq_true rfl) ⟨rfl, rfl, Nat.le_of_ble_eq_true rfl, Nat.le_of_ble_eq_true rfl, Nat.zero_le _, Nat.zero_le _⟩ dX12_readsItem_167 (fun H locs w => ?_)
    refine W.eq (g2 := F0 m 170 ls [.int (b2i r_4.1)]) rfl ?_
    refine lv_istore_n (lv' := [(2, .int (b2i r_4.1)), (0, .ref a0), (1, .int x1)]) hx hb dX12_readsItem_170 rfl hl (by decide) rfl (fun ls hl => ?_)
    refine lv_goto (tgt := 290) hx hb dX12_readsItem_171 (by decide) ?_
    refine lv_iload_n hx hb dX12_readsItem_290 rfl (lv_at hl 0 rfl) ?_
    refine lv_if_ne (tgt := 296) hx hb dX12_readsItem_291 (by decide) (fun c291 => ?_) (fun c291 => ?_)
    · have h := sat_f c291 h
      refine lv_aload_n hx hb dX12_readsItem_296 rfl (lv_at hl 1 rfl) ?_
      obtain ⟨r_5, e_5, h⟩ := sat_bind h
      refine cMV (rest := []) (wr := [(a6, .inl (cI, 36, .inl r_4.2.2.2.2.2))]) (ws' := [(a0, .inr (12, [.int m_nodes, .int m_every, .int m_halves, .int m_age, .int m_life, .int m_first, .ref a1, .int m_undoMany, .int m_undoAt, .ref a2, .ref a3, .ref a4, .int m_letterMany, .ref a5, .int r_5.1, .int r_5.2.1, .int r_5.2.2, .int m_newNodes, .int m_newEvery, .int m_newHalves, .int m_newAge, .int m_newLife, .int m_newFirst, .int r_4.2.2.2.2.1, .ref a6, .int m_pathMany, .int m_pathDelay, .ref a7, .ref a8, .int m_seenMany, .ref a9, .ref a10, .ref a11])), (a5, .inl (cI, 120, .inl m_text)), (a6, .inl (cI, 36, .inl r_4.2.2.2.2.2))]) hx hb hml hown hk w hA (k_X12_next l D cI cZ cK N a0 a1 a2 a3 a4 a5 a6 a7 a8 a9 a10 a11 m_nodes m_every m_halves m_age m_life m_first m_undoMany m_undoAt m_letterMany r_4.2.1 r_4.2.2.1 r_4.2.2.2.1 m_newNodes m_newEvery m_newHalves m_newAge m_newLife m_newFirst r_4.2.2.2.2.1 m_pathMany m_pathDelay m_seenMany m_text r_5 e_5) (me_X12_next hk.2.1) (mi_X12_next hk.2.1) (ml_X12_85 hk.2.1) ((pmn 3 [0, 1, 2] rfl rfl (by decide))) ((pmn 3 [0, 1, 2] rfl rfl (by decide))) 0 rfl rfl rfl hl.1 rfl rfl (Nat.le_of_ble_eq_true rfl) ⟨rfl, rfl, Nat.le_of_ble_eq_true rfl, Nat.le_of_ble_eq_true rfl, Nat.zero_le _, Nat.zero_le _⟩ dX12_readsItem_297 (fun H locs w => ?_)
      refine W.eq (g2 := F0 m 300 ls []) rfl ?_
      refine lv_aload_n hx hb dX12_readsItem_300 rfl (lv_at hl 1 rfl) ?_
      refine gf_X12_78 hx hb hown hk w.1 0 rfl rfl dX12_readsItem_301 ?_
      refine lv_bipush (v := 59) hx hb dX12_readsItem_304 (by decide) ?_
      refine lv_icmp_ne (tgt := 313) hx hb dX12_readsItem_306 (by decide) (fun c306 => ?_) (fun c306 => ?_)
      · have h := sat_f c306 h
        refine lv_iconst (v := 0) hx hb dX12_readsItem_313 (by decide) ?_
        have hR := hC0 _ (sat_some h)
        subst hR
        exact hret _ _ _ _ w dX12_readsItem_314
      · have h := sat_t c306 h
        refine lv_iconst (v := 1) hx hb dX12_readsItem_309 (by decide) ?_
        refine lv_goto (tgt := 314) hx hb dX12_readsItem_310 (by decide) ?_
        have hR := hC0 _ (sat_some h)
        subst hR
        exact hret _ _ _ _ w dX12_readsItem_314
    · have h := sat_t c291 h
      refine lv_iconst (v := 0) hx hb dX12_readsItem_294 (by decide) ?_
      have hR := hC0 _ (sat_some h)
      subst hR
      exact hret _ _ _ _ w dX12_readsItem_295
  have h := sat_f c10_101 h
  have nc10_101 := ne_ti (z := 101) c10_101 (by decide)
  by_cases c10_102 : r_1.2.2 = 102
  · have h := sat_t c10_102 h
    refine lv_tableIn (off := 255) (tgt := 265) hx hb dX12_readsItem_10 (by rw [c10_102]; decide) (by rw [c10_102]; decide) (by rw [c10_102]; decide) (by decide) ?_
    refine lv_aload_n hx hb dX12_readsItem_265 rfl (lv_at hl 1 rfl) ?_
    refine lv_iconst (v := 0) hx hb dX12_readsItem_266 (by decide) ?_
    refine lv_bipush (v := 99) hx hb dX12_readsItem_267 (by decide) ?_
    obtain ⟨r_6, e_6, h⟩ := sat_bind h
    refine cMV (rest := []) (wr := [(a6, .inl (cI, 36, .inl m_newDelay))]) (ws' := [(a0, .inr (12, [.int m_nodes, .int m_every, .int m_halves, .int m_age, .int m_life, .int m_first, .ref a1, .int m_undoMany, .int m_undoAt, .ref a2, .ref a3, .ref a4, .int m_letterMany, .ref a5, .int r_6.2.1, .int r_6.2.2.1, .int r_6.2.2.2, .int m_newNodes, .int m_newEvery, .int m_newHalves, .int m_newAge, .int m_newLife, .int m_newFirst, .int m_newLinks, .ref a6, .int m_pathMany, .int m_pathDelay, .ref a7, .ref a8, .int m_seenMany, .ref a9, .ref a10, .ref a11])), (a5, .inl (cI, 120, .inl m_text)), (a6, .inl (cI, 36, .inl m_newDelay))]) hx hb hml hown hk w hA (k_X12_isNumber l D cI cZ cK N a0 a1 a2 a3 a4 a5 a6 a7 a8 a9 a10 a11 m_nodes m_every m_halves m_age m_life m_first m_undoMany m_undoAt m_letterMany r_1.1 r_1.2.1 r_1.2.2 m_newNodes m_newEvery m_newHalves m_newAge m_newLife m_newFirst m_newLinks m_pathMany m_pathDelay m_seenMany m_text 0 99 r_6 e_6) (me_X12_isNumber hk.2.1) (mi_X12_isNumber hk.2.1) (ml_X12_94 hk.2.1) ((pmn 3 [0, 1, 2] rfl rfl (by decide))) ((pmn 3 [0, 1, 2] rfl rfl (by decide))) 0 rfl rfl rfl hl.1 rfl rfl (Nat.le_of_ble_eq_true rfl) ⟨rfl, rfl, Nat.le_of_ble_eq_true rfl, Nat.le_of_ble_eq_true rfl, Nat.zero_le _, Nat.zero_le _⟩ dX12_readsItem_269 (fun H locs w => ?_)
    refine W.eq (g2 := F0 m 272 ls [.int (b2i r_6.1)]) rfl ?_
    refine lv_istore_n (lv' := [(2, .int (b2i r_6.1)), (0, .ref a0), (1, .int x1)]) hx hb dX12_readsItem_272 rfl hl (by decide) rfl (fun ls hl => ?_)
    refine lv_aload_n hx hb dX12_readsItem_273 rfl (lv_at hl 1 rfl) ?_
    refine lv_aload_n hx hb dX12_readsItem_274 rfl (lv_at hl 1 rfl) ?_
    refine gf_X12_78 hx hb hown hk w.1 0 rfl rfl dX12_readsItem_275 ?_
    refine lv_sipush (v := 1000) hx hb dX12_readsItem_278 (by decide) ?_
    refine lv_isub hx hb dX12_readsItem_281 ?_
    refine pf_X12_113 (ws' := [(a0, .inr (12, [.int m_nodes, .int m_every, .int m_halves, .int m_age, .int m_life, .int m_first, .ref a1, .int m_undoMany, .int m_undoAt, .ref a2, .ref a3, .ref a4, .int m_letterMany, .ref a5, .int r_6.2.1, .int r_6.2.2.1, .int r_6.2.2.2, .int m_newNodes, .int m_newEvery, .int m_newHalves, .int m_newAge, .int m_newLife, .int (r_6.2.2.2 - 1000), .int m_newLinks, .ref a6, .int m_pathMany, .int m_pathDelay, .ref a7, .ref a8, .int m_seenMany, .ref a9, .ref a10, .ref a11])), (a5, .inl (cI, 120, .inl m_text)), (a6, .inl (cI, 36, .inl m_newDelay))]) hx hb hown hk w 0 rfl (Nat.le_of_ble_eq_true rfl) rfl dX12_readsItem_282 (fun H locs w => ?_)
    refine lv_goto (tgt := 290) hx hb dX12_readsItem_285 (by decide) ?_
    refine lv_iload_n hx hb dX12_readsItem_290 rfl (lv_at hl 0 rfl) ?_
    refine lv_if_ne (tgt := 296) hx hb dX12_readsItem_291 (by decide) (fun c291 => ?_) (fun c291 => ?_)
    · have h := sat_f c291 h
      refine lv_aload_n hx hb dX12_readsItem_296 rfl (lv_at hl 1 rfl) ?_
      obtain ⟨r_7, e_7, h⟩ := sat_bind h
      refine cMV (rest := []) (wr := [(a6, .inl (cI, 36, .inl m_newDelay))]) (ws' := [(a0, .inr (12, [.int m_nodes, .int m_every, .int m_halves, .int m_age, .int m_life, .int m_first, .ref a1, .int m_undoMany, .int m_undoAt, .ref a2, .ref a3, .ref a4, .int m_letterMany, .ref a5, .int r_7.1, .int r_7.2.1, .int r_7.2.2, .int m_newNodes, .int m_newEvery, .int m_newHalves, .int m_newAge, .int m_newLife, .int (r_6.2.2.2 - 1000), .int m_newLinks, .ref a6, .int m_pathMany, .int m_pathDelay, .ref a7, .ref a8, .int m_seenMany, .ref a9, .ref a10, .ref a11])), (a5, .inl (cI, 120, .inl m_text)), (a6, .inl (cI, 36, .inl m_newDelay))]) hx hb hml hown hk w hA (k_X12_next l D cI cZ cK N a0 a1 a2 a3 a4 a5 a6 a7 a8 a9 a10 a11 m_nodes m_every m_halves m_age m_life m_first m_undoMany m_undoAt m_letterMany r_6.2.1 r_6.2.2.1 r_6.2.2.2 m_newNodes m_newEvery m_newHalves m_newAge m_newLife (r_6.2.2.2 - 1000) m_newLinks m_pathMany m_pathDelay m_seenMany m_text r_7 e_7) (me_X12_next hk.2.1) (mi_X12_next hk.2.1) (ml_X12_85 hk.2.1) ((pmn 3 [0, 1, 2] rfl rfl (by decide))) ((pmn 3 [0, 1, 2] rfl rfl (by decide))) 0 rfl rfl rfl hl.1 rfl rfl (Nat.le_of_ble_eq_true rfl) ⟨rfl, rfl, Nat.le_of_ble_eq_true rfl, Nat.le_of_ble_eq_true rfl, Nat.zero_le _, Nat.zero_le _⟩ dX12_readsItem_297 (fun H locs w => ?_)
      refine W.eq (g2 := F0 m 300 ls []) rfl ?_
      refine lv_aload_n hx hb dX12_readsItem_300 rfl (lv_at hl 1 rfl) ?_
      refine gf_X12_78 hx hb hown hk w.1 0 rfl rfl dX12_readsItem_301 ?_
      refine lv_bipush (v := 59) hx hb dX12_readsItem_304 (by decide) ?_
      refine lv_icmp_ne (tgt := 313) hx hb dX12_readsItem_306 (by decide) (fun c306 => ?_) (fun c306 => ?_)
      · have h := sat_f c306 h
        refine lv_iconst (v := 0) hx hb dX12_readsItem_313 (by decide) ?_
        have hR := hC0 _ (sat_some h)
        subst hR
        exact hret _ _ _ _ w dX12_readsItem_314
      · have h := sat_t c306 h
        refine lv_iconst (v := 1) hx hb dX12_readsItem_309 (by decide) ?_
        refine lv_goto (tgt := 314) hx hb dX12_readsItem_310 (by decide) ?_
        have hR := hC0 _ (sat_some h)
        subst hR
        exact hret _ _ _ _ w dX12_readsItem_314
    · have h := sat_t c291 h
      refine lv_iconst (v := 0) hx hb dX12_readsItem_294 (by decide) ?_
      have hR := hC0 _ (sat_some h)
      subst hR
      exact hret _ _ _ _ w dX12_readsItem_295
  have h := sat_f c10_102 h
  have nc10_102 := ne_ti (z := 102) c10_102 (by decide)
  by_cases c10_103 : r_1.2.2 = 103
  · have h := sat_f (show ¬ r_1.2.2 = 104 from by rw [c10_103]; decide) h
    have h := sat_f (show ¬ r_1.2.2 = 108 from by rw [c10_103]; decide) h
    have h := sat_f (show ¬ r_1.2.2 = 110 from by rw [c10_103]; decide) h
    have h := sat_f (show ¬ r_1.2.2 = 120 from by rw [c10_103]; decide) h
    refine lv_tableIn (off := 278) (tgt := 288) hx hb dX12_readsItem_10 (by rw [c10_103]; decide) (by rw [c10_103]; decide) (by rw [c10_103]; decide) (by decide) ?_
    refine lv_iconst (v := 0) hx hb dX12_readsItem_288 (by decide) ?_
    have hR := hC0 _ (sat_some h)
    subst hR
    exact hret _ _ _ _ w dX12_readsItem_289
  have nc10_103 := ne_ti (z := 103) c10_103 (by decide)
  by_cases c10_104 : r_1.2.2 = 104
  · have h := sat_t c10_104 h
    refine lv_tableIn (off := 187) (tgt := 197) hx hb dX12_readsItem_10 (by rw [c10_104]; decide) (by rw [c10_104]; decide) (by rw [c10_104]; decide) (by decide) ?_
    refine lv_aload_n hx hb dX12_readsItem_197 rfl (lv_at hl 1 rfl) ?_
    refine lv_iconst (v := 0) hx hb dX12_readsItem_198 (by decide) ?_
    refine lv_iconst (v := 3) hx hb dX12_readsItem_199 (by decide) ?_
    obtain ⟨r_8, e_8, h⟩ := sat_bind h
    refine cMV (rest := []) (wr := [(a6, .inl (cI, 36, .inl m_newDelay))]) (ws' := [(a0, .inr (12, [.int m_nodes, .int m_every, .int m_halves, .int m_age, .int m_life, .int m_first, .ref a1, .int m_undoMany, .int m_undoAt, .ref a2, .ref a3, .ref a4, .int m_letterMany, .ref a5, .int r_8.2.1, .int r_8.2.2.1, .int r_8.2.2.2, .int m_newNodes, .int m_newEvery, .int m_newHalves, .int m_newAge, .int m_newLife, .int m_newFirst, .int m_newLinks, .ref a6, .int m_pathMany, .int m_pathDelay, .ref a7, .ref a8, .int m_seenMany, .ref a9, .ref a10, .ref a11])), (a5, .inl (cI, 120, .inl m_text)), (a6, .inl (cI, 36, .inl m_newDelay))]) hx hb hml hown hk w hA (k_X12_isNumber l D cI cZ cK N a0 a1 a2 a3 a4 a5 a6 a7 a8 a9 a10 a11 m_nodes m_every m_halves m_age m_life m_first m_undoMany m_undoAt m_letterMany r_1.1 r_1.2.1 r_1.2.2 m_newNodes m_newEvery m_newHalves m_newAge m_newLife m_newFirst m_newLinks m_pathMany m_pathDelay m_seenMany m_text 0 3 r_8 e_8) (me_X12_isNumber hk.2.1) (mi_X12_isNumber hk.2.1) (ml_X12_94 hk.2.1) ((pmn 3 [0, 1, 2] rfl rfl (by decide))) ((pmn 3 [0, 1, 2] rfl rfl (by decide))) 0 rfl rfl rfl hl.1 rfl rfl (Nat.le_of_ble_eq_true rfl) ⟨rfl, rfl, Nat.le_of_ble_eq_true rfl, Nat.le_of_ble_eq_true rfl, Nat.zero_le _, Nat.zero_le _⟩ dX12_readsItem_200 (fun H locs w => ?_)
    refine W.eq (g2 := F0 m 203 ls [.int (b2i r_8.1)]) rfl ?_
    refine lv_istore_n (lv' := [(2, .int (b2i r_8.1)), (0, .ref a0), (1, .int x1)]) hx hb dX12_readsItem_203 rfl hl (by decide) rfl (fun ls hl => ?_)
    refine lv_aload_n hx hb dX12_readsItem_204 rfl (lv_at hl 1 rfl) ?_
    refine lv_aload_n hx hb dX12_readsItem_205 rfl (lv_at hl 1 rfl) ?_
    refine gf_X12_78 hx hb hown hk w.1 0 rfl rfl dX12_readsItem_206 ?_
    refine lv_sipush (v := 1000) hx hb dX12_readsItem_209 (by decide) ?_
    refine lv_isub hx hb dX12_readsItem_212 ?_
    refine pf_X12_104 (ws' := [(a0, .inr (12, [.int m_nodes, .int m_every, .int m_halves, .int m_age, .int m_life, .int m_first, .ref a1, .int m_undoMany, .int m_undoAt, .ref a2, .ref a3, .ref a4, .int m_letterMany, .ref a5, .int r_8.2.1, .int r_8.2.2.1, .int r_8.2.2.2, .int m_newNodes, .int m_newEvery, .int (r_8.2.2.2 - 1000), .int m_newAge, .int m_newLife, .int m_newFirst, .int m_newLinks, .ref a6, .int m_pathMany, .int m_pathDelay, .ref a7, .ref a8, .int m_seenMany, .ref a9, .ref a10, .ref a11])), (a5, .inl (cI, 120, .inl m_text)), (a6, .inl (cI, 36, .inl m_newDelay))]) hx hb hown hk w 0 rfl (Nat.le_of_ble_eq_true rfl) rfl dX12_readsItem_213 (fun H locs w => ?_)
    refine lv_goto (tgt := 290) hx hb dX12_readsItem_216 (by decide) ?_
    refine lv_iload_n hx hb dX12_readsItem_290 rfl (lv_at hl 0 rfl) ?_
    refine lv_if_ne (tgt := 296) hx hb dX12_readsItem_291 (by decide) (fun c291 => ?_) (fun c291 => ?_)
    · have h := sat_f c291 h
      refine lv_aload_n hx hb dX12_readsItem_296 rfl (lv_at hl 1 rfl) ?_
      obtain ⟨r_9, e_9, h⟩ := sat_bind h
      refine cMV (rest := []) (wr := [(a6, .inl (cI, 36, .inl m_newDelay))]) (ws' := [(a0, .inr (12, [.int m_nodes, .int m_every, .int m_halves, .int m_age, .int m_life, .int m_first, .ref a1, .int m_undoMany, .int m_undoAt, .ref a2, .ref a3, .ref a4, .int m_letterMany, .ref a5, .int r_9.1, .int r_9.2.1, .int r_9.2.2, .int m_newNodes, .int m_newEvery, .int (r_8.2.2.2 - 1000), .int m_newAge, .int m_newLife, .int m_newFirst, .int m_newLinks, .ref a6, .int m_pathMany, .int m_pathDelay, .ref a7, .ref a8, .int m_seenMany, .ref a9, .ref a10, .ref a11])), (a5, .inl (cI, 120, .inl m_text)), (a6, .inl (cI, 36, .inl m_newDelay))]) hx hb hml hown hk w hA (k_X12_next l D cI cZ cK N a0 a1 a2 a3 a4 a5 a6 a7 a8 a9 a10 a11 m_nodes m_every m_halves m_age m_life m_first m_undoMany m_undoAt m_letterMany r_8.2.1 r_8.2.2.1 r_8.2.2.2 m_newNodes m_newEvery (r_8.2.2.2 - 1000) m_newAge m_newLife m_newFirst m_newLinks m_pathMany m_pathDelay m_seenMany m_text r_9 e_9) (me_X12_next hk.2.1) (mi_X12_next hk.2.1) (ml_X12_85 hk.2.1) ((pmn 3 [0, 1, 2] rfl rfl (by decide))) ((pmn 3 [0, 1, 2] rfl rfl (by decide))) 0 rfl rfl rfl hl.1 rfl rfl (Nat.le_of_ble_eq_true rfl) ⟨rfl, rfl, Nat.le_of_ble_eq_true rfl, Nat.le_of_ble_eq_true rfl, Nat.zero_le _, Nat.zero_le _⟩ dX12_readsItem_297 (fun H locs w => ?_)
      refine W.eq (g2 := F0 m 300 ls []) rfl ?_
      refine lv_aload_n hx hb dX12_readsItem_300 rfl (lv_at hl 1 rfl) ?_
      refine gf_X12_78 hx hb hown hk w.1 0 rfl rfl dX12_readsItem_301 ?_
      refine lv_bipush (v := 59) hx hb dX12_readsItem_304 (by decide) ?_
      refine lv_icmp_ne (tgt := 313) hx hb dX12_readsItem_306 (by decide) (fun c306 => ?_) (fun c306 => ?_)
      · have h := sat_f c306 h
        refine lv_iconst (v := 0) hx hb dX12_readsItem_313 (by decide) ?_
        have hR := hC0 _ (sat_some h)
        subst hR
        exact hret _ _ _ _ w dX12_readsItem_314
      · have h := sat_t c306 h
        refine lv_iconst (v := 1) hx hb dX12_readsItem_309 (by decide) ?_
        refine lv_goto (tgt := 314) hx hb dX12_readsItem_310 (by decide) ?_
        have hR := hC0 _ (sat_some h)
        subst hR
        exact hret _ _ _ _ w dX12_readsItem_314
    · have h := sat_t c291 h
      refine lv_iconst (v := 0) hx hb dX12_readsItem_294 (by decide) ?_
      have hR := hC0 _ (sat_some h)
      subst hR
      exact hret _ _ _ _ w dX12_readsItem_295
  have h := sat_f c10_104 h
  have nc10_104 := ne_ti (z := 104) c10_104 (by decide)
  by_cases c10_105 : r_1.2.2 = 105
  · have h := sat_f (show ¬ r_1.2.2 = 108 from by rw [c10_105]; decide) h
    have h := sat_f (show ¬ r_1.2.2 = 110 from by rw [c10_105]; decide) h
    have h := sat_f (show ¬ r_1.2.2 = 120 from by rw [c10_105]; decide) h
    refine lv_tableIn (off := 278) (tgt := 288) hx hb dX12_readsItem_10 (by rw [c10_105]; decide) (by rw [c10_105]; decide) (by rw [c10_105]; decide) (by decide) ?_
    refine lv_iconst (v := 0) hx hb dX12_readsItem_288 (by decide) ?_
    have hR := hC0 _ (sat_some h)
    subst hR
    exact hret _ _ _ _ w dX12_readsItem_289
  have nc10_105 := ne_ti (z := 105) c10_105 (by decide)
  by_cases c10_106 : r_1.2.2 = 106
  · have h := sat_f (show ¬ r_1.2.2 = 108 from by rw [c10_106]; decide) h
    have h := sat_f (show ¬ r_1.2.2 = 110 from by rw [c10_106]; decide) h
    have h := sat_f (show ¬ r_1.2.2 = 120 from by rw [c10_106]; decide) h
    refine lv_tableIn (off := 278) (tgt := 288) hx hb dX12_readsItem_10 (by rw [c10_106]; decide) (by rw [c10_106]; decide) (by rw [c10_106]; decide) (by decide) ?_
    refine lv_iconst (v := 0) hx hb dX12_readsItem_288 (by decide) ?_
    have hR := hC0 _ (sat_some h)
    subst hR
    exact hret _ _ _ _ w dX12_readsItem_289
  have nc10_106 := ne_ti (z := 106) c10_106 (by decide)
  by_cases c10_107 : r_1.2.2 = 107
  · have h := sat_f (show ¬ r_1.2.2 = 108 from by rw [c10_107]; decide) h
    have h := sat_f (show ¬ r_1.2.2 = 110 from by rw [c10_107]; decide) h
    have h := sat_f (show ¬ r_1.2.2 = 120 from by rw [c10_107]; decide) h
    refine lv_tableIn (off := 278) (tgt := 288) hx hb dX12_readsItem_10 (by rw [c10_107]; decide) (by rw [c10_107]; decide) (by rw [c10_107]; decide) (by decide) ?_
    refine lv_iconst (v := 0) hx hb dX12_readsItem_288 (by decide) ?_
    have hR := hC0 _ (sat_some h)
    subst hR
    exact hret _ _ _ _ w dX12_readsItem_289
  have nc10_107 := ne_ti (z := 107) c10_107 (by decide)
  by_cases c10_108 : r_1.2.2 = 108
  · have h := sat_t c10_108 h
    refine lv_tableIn (off := 232) (tgt := 242) hx hb dX12_readsItem_10 (by rw [c10_108]; decide) (by rw [c10_108]; decide) (by rw [c10_108]; decide) (by decide) ?_
    refine lv_aload_n hx hb dX12_readsItem_242 rfl (lv_at hl 1 rfl) ?_
    refine lv_iconst (v := 1) hx hb dX12_readsItem_243 (by decide) ?_
    refine lv_bipush (v := 99) hx hb dX12_readsItem_244 (by decide) ?_
    obtain ⟨r_10, e_10, h⟩ := sat_bind h
    refine cMV (rest := []) (wr := [(a6, .inl (cI, 36, .inl m_newDelay))]) (ws' := [(a0, .inr (12, [.int m_nodes, .int m_every, .int m_halves, .int m_age, .int m_life, .int m_first, .ref a1, .int m_undoMany, .int m_undoAt, .ref a2, .ref a3, .ref a4, .int m_letterMany, .ref a5, .int r_10.2.1, .int r_10.2.2.1, .int r_10.2.2.2, .int m_newNodes, .int m_newEvery, .int m_newHalves, .int m_newAge, .int m_newLife, .int m_newFirst, .int m_newLinks, .ref a6, .int m_pathMany, .int m_pathDelay, .ref a7, .ref a8, .int m_seenMany, .ref a9, .ref a10, .ref a11])), (a5, .inl (cI, 120, .inl m_text)), (a6, .inl (cI, 36, .inl m_newDelay))]) hx hb hml hown hk w hA (k_X12_isNumber l D cI cZ cK N a0 a1 a2 a3 a4 a5 a6 a7 a8 a9 a10 a11 m_nodes m_every m_halves m_age m_life m_first m_undoMany m_undoAt m_letterMany r_1.1 r_1.2.1 r_1.2.2 m_newNodes m_newEvery m_newHalves m_newAge m_newLife m_newFirst m_newLinks m_pathMany m_pathDelay m_seenMany m_text 1 99 r_10 e_10) (me_X12_isNumber hk.2.1) (mi_X12_isNumber hk.2.1) (ml_X12_94 hk.2.1) ((pmn 3 [0, 1, 2] rfl rfl (by decide))) ((pmn 3 [0, 1, 2] rfl rfl (by decide))) 0 rfl rfl rfl hl.1 rfl rfl (Nat.le_of_ble_eq_true rfl) ⟨rfl, rfl, Nat.le_of_ble_eq_true rfl, Nat.le_of_ble_eq_true rfl, Nat.zero_le _, Nat.zero_le _⟩ dX12_readsItem_246 (fun H locs w => ?_)
    refine W.eq (g2 := F0 m 249 ls [.int (b2i r_10.1)]) rfl ?_
    refine lv_istore_n (lv' := [(2, .int (b2i r_10.1)), (0, .ref a0), (1, .int x1)]) hx hb dX12_readsItem_249 rfl hl (by decide) rfl (fun ls hl => ?_)
    refine lv_aload_n hx hb dX12_readsItem_250 rfl (lv_at hl 1 rfl) ?_
    refine lv_aload_n hx hb dX12_readsItem_251 rfl (lv_at hl 1 rfl) ?_
    refine gf_X12_78 hx hb hown hk w.1 0 rfl rfl dX12_readsItem_252 ?_
    refine lv_sipush (v := 1000) hx hb dX12_readsItem_255 (by decide) ?_
    refine lv_isub hx hb dX12_readsItem_258 ?_
    refine pf_X12_110 (ws' := [(a0, .inr (12, [.int m_nodes, .int m_every, .int m_halves, .int m_age, .int m_life, .int m_first, .ref a1, .int m_undoMany, .int m_undoAt, .ref a2, .ref a3, .ref a4, .int m_letterMany, .ref a5, .int r_10.2.1, .int r_10.2.2.1, .int r_10.2.2.2, .int m_newNodes, .int m_newEvery, .int m_newHalves, .int m_newAge, .int (r_10.2.2.2 - 1000), .int m_newFirst, .int m_newLinks, .ref a6, .int m_pathMany, .int m_pathDelay, .ref a7, .ref a8, .int m_seenMany, .ref a9, .ref a10, .ref a11])), (a5, .inl (cI, 120, .inl m_text)), (a6, .inl (cI, 36, .inl m_newDelay))]) hx hb hown hk w 0 rfl (Nat.le_of_ble_eq_true rfl) rfl dX12_readsItem_259 (fun H locs w => ?_)
    refine lv_goto (tgt := 290) hx hb dX12_readsItem_262 (by decide) ?_
    refine lv_iload_n hx hb dX12_readsItem_290 rfl (lv_at hl 0 rfl) ?_
    refine lv_if_ne (tgt := 296) hx hb dX12_readsItem_291 (by decide) (fun c291 => ?_) (fun c291 => ?_)
    · have h := sat_f c291 h
      refine lv_aload_n hx hb dX12_readsItem_296 rfl (lv_at hl 1 rfl) ?_
      obtain ⟨r_11, e_11, h⟩ := sat_bind h
      refine cMV (rest := []) (wr := [(a6, .inl (cI, 36, .inl m_newDelay))]) (ws' := [(a0, .inr (12, [.int m_nodes, .int m_every, .int m_halves, .int m_age, .int m_life, .int m_first, .ref a1, .int m_undoMany, .int m_undoAt, .ref a2, .ref a3, .ref a4, .int m_letterMany, .ref a5, .int r_11.1, .int r_11.2.1, .int r_11.2.2, .int m_newNodes, .int m_newEvery, .int m_newHalves, .int m_newAge, .int (r_10.2.2.2 - 1000), .int m_newFirst, .int m_newLinks, .ref a6, .int m_pathMany, .int m_pathDelay, .ref a7, .ref a8, .int m_seenMany, .ref a9, .ref a10, .ref a11])), (a5, .inl (cI, 120, .inl m_text)), (a6, .inl (cI, 36, .inl m_newDelay))]) hx hb hml hown hk w hA (k_X12_next l D cI cZ cK N a0 a1 a2 a3 a4 a5 a6 a7 a8 a9 a10 a11 m_nodes m_every m_halves m_age m_life m_first m_undoMany m_undoAt m_letterMany r_10.2.1 r_10.2.2.1 r_10.2.2.2 m_newNodes m_newEvery m_newHalves m_newAge (r_10.2.2.2 - 1000) m_newFirst m_newLinks m_pathMany m_pathDelay m_seenMany m_text r_11 e_11) (me_X12_next hk.2.1) (mi_X12_next hk.2.1) (ml_X12_85 hk.2.1) ((pmn 3 [0, 1, 2] rfl rfl (by decide))) ((pmn 3 [0, 1, 2] rfl rfl (by decide))) 0 rfl rfl rfl hl.1 rfl rfl (Nat.le_of_ble_eq_true rfl) ⟨rfl, rfl, Nat.le_of_ble_eq_true rfl, Nat.le_of_ble_eq_true rfl, Nat.zero_le _, Nat.zero_le _⟩ dX12_readsItem_297 (fun H locs w => ?_)
      refine W.eq (g2 := F0 m 300 ls []) rfl ?_
      refine lv_aload_n hx hb dX12_readsItem_300 rfl (lv_at hl 1 rfl) ?_
      refine gf_X12_78 hx hb hown hk w.1 0 rfl rfl dX12_readsItem_301 ?_
      refine lv_bipush (v := 59) hx hb dX12_readsItem_304 (by decide) ?_
      refine lv_icmp_ne (tgt := 313) hx hb dX12_readsItem_306 (by decide) (fun c306 => ?_) (fun c306 => ?_)
      · have h := sat_f c306 h
        refine lv_iconst (v := 0) hx hb dX12_readsItem_313 (by decide) ?_
        have hR := hC0 _ (sat_some h)
        subst hR
        exact hret _ _ _ _ w dX12_readsItem_314
      · have h := sat_t c306 h
        refine lv_iconst (v := 1) hx hb dX12_readsItem_309 (by decide) ?_
        refine lv_goto (tgt := 314) hx hb dX12_readsItem_310 (by decide) ?_
        have hR := hC0 _ (sat_some h)
        subst hR
        exact hret _ _ _ _ w dX12_readsItem_314
    · have h := sat_t c291 h
      refine lv_iconst (v := 0) hx hb dX12_readsItem_294 (by decide) ?_
      have hR := hC0 _ (sat_some h)
      subst hR
      exact hret _ _ _ _ w dX12_readsItem_295
  have h := sat_f c10_108 h
  have nc10_108 := ne_ti (z := 108) c10_108 (by decide)
  by_cases c10_109 : r_1.2.2 = 109
  · have h := sat_f (show ¬ r_1.2.2 = 110 from by rw [c10_109]; decide) h
    have h := sat_f (show ¬ r_1.2.2 = 120 from by rw [c10_109]; decide) h
    refine lv_tableIn (off := 278) (tgt := 288) hx hb dX12_readsItem_10 (by rw [c10_109]; decide) (by rw [c10_109]; decide) (by rw [c10_109]; decide) (by decide) ?_
    refine lv_iconst (v := 0) hx hb dX12_readsItem_288 (by decide) ?_
    have hR := hC0 _ (sat_some h)
    subst hR
    exact hret _ _ _ _ w dX12_readsItem_289
  have nc10_109 := ne_ti (z := 109) c10_109 (by decide)
  by_cases c10_110 : r_1.2.2 = 110
  · have h := sat_t c10_110 h
    refine lv_tableIn (off := 110) (tgt := 120) hx hb dX12_readsItem_10 (by rw [c10_110]; decide) (by rw [c10_110]; decide) (by rw [c10_110]; decide) (by decide) ?_
    refine lv_iload_n hx hb dX12_readsItem_120 rfl (lv_at hl 2 rfl) ?_
    obtain ⟨T121, hT121, h⟩ := sat_reg h
    have J121 : ∀ (j_12 : Int32) (m_readAt_13 : Int32) (m_tokenAt_14 : Int32) (m_token_15 : Int32) (H : Heap) (locs : List Loc) (ls : Array Slot), T121 (j_12, m_readAt_13, m_tokenAt_14, m_token_15) → wd D A s.heap H locs [(a0, .inr (12, [.int m_nodes, .int m_every, .int m_halves, .int m_age, .int m_life, .int m_first, .ref a1, .int m_undoMany, .int m_undoAt, .ref a2, .ref a3, .ref a4, .int m_letterMany, .ref a5, .int m_readAt_13, .int m_tokenAt_14, .int m_token_15, .int m_newNodes, .int m_newEvery, .int m_newHalves, .int m_newAge, .int m_newLife, .int m_newFirst, .int m_newLinks, .ref a6, .int m_pathMany, .int m_pathDelay, .ref a7, .ref a8, .int m_seenMany, .ref a9, .ref a10, .ref a11])), (a5, .inl (cI, 120, .inl m_text)), (a6, .inl (cI, 36, .inl m_newDelay))] → lv_has ls 3 [(0, .ref a0)] → W p l e rm_X12_readsItem s m args below meth c H locs 0 0 Q (F0 m 139 ls [.int j_12]) := by
      intro j_12 m_readAt_13 m_tokenAt_14 m_token_15 H locs ls h w hl
      have h := hT121 _ h
      dsimp only at h
      refine lv_istore_n (lv' := [(2, .int j_12), (0, .ref a0)]) hx hb dX12_readsItem_139 rfl hl (by decide) rfl (fun ls hl => ?_)
      refine lv_aload_n hx hb dX12_readsItem_140 rfl (lv_at hl 1 rfl) ?_
      refine lv_iload_n hx hb dX12_readsItem_141 rfl (lv_at hl 0 rfl) ?_
      obtain ⟨T142, hT142, h⟩ := sat_reg h
      have J142 : ∀ (j_16 : Int32) (H : Heap) (locs : List Loc) (ls : Array Slot), T142 j_16 → wd D A s.heap H locs [(a0, .inr (12, [.int m_nodes, .int m_every, .int m_halves, .int m_age, .int m_life, .int m_first, .ref a1, .int m_undoMany, .int m_undoAt, .ref a2, .ref a3, .ref a4, .int m_letterMany, .ref a5, .int m_readAt_13, .int m_tokenAt_14, .int m_token_15, .int m_newNodes, .int m_newEvery, .int m_newHalves, .int m_newAge, .int m_newLife, .int m_newFirst, .int m_newLinks, .ref a6, .int m_pathMany, .int m_pathDelay, .ref a7, .ref a8, .int m_seenMany, .ref a9, .ref a10, .ref a11])), (a5, .inl (cI, 120, .inl m_text)), (a6, .inl (cI, 36, .inl m_newDelay))] → lv_has ls 3 [(0, .ref a0), (2, .int j_12)] → W p l e rm_X12_readsItem s m args below meth c H locs 0 0 Q (F0 m 160 ls [.int j_16, .ref a0]) := by
        intro j_16 H locs ls h w hl
        have h := hT142 _ h
        refine pf_X12_91 (ws' := [(a0, .inr (12, [.int m_nodes, .int m_every, .int m_halves, .int m_age, .int m_life, .int m_first, .ref a1, .int m_undoMany, .int m_undoAt, .ref a2, .ref a3, .ref a4, .int m_letterMany, .ref a5, .int m_readAt_13, .int m_tokenAt_14, .int m_token_15, .int j_16, .int m_newEvery, .int m_newHalves, .int m_newAge, .int m_newLife, .int m_newFirst, .int m_newLinks, .ref a6, .int m_pathMany, .int m_pathDelay, .ref a7, .ref a8, .int m_seenMany, .ref a9, .ref a10, .ref a11])), (a5, .inl (cI, 120, .inl m_text)), (a6, .inl (cI, 36, .inl m_newDelay))]) hx hb hown hk w 0 rfl (Nat.le_of_ble_eq_true rfl) rfl dX12_readsItem_160 (fun H locs w => ?_)
        refine lv_goto (tgt := 290) hx hb dX12_readsItem_163 (by decide) ?_
        refine lv_iload_n hx hb dX12_readsItem_290 rfl (lv_at hl 1 rfl) ?_
        refine lv_if_ne (tgt := 296) hx hb dX12_readsItem_291 (by decide) (fun c291 => ?_) (fun c291 => ?_)
        · have h := sat_f c291 h
          refine lv_aload_n hx hb dX12_readsItem_296 rfl (lv_at hl 0 rfl) ?_
          obtain ⟨r_17, e_17, h⟩ := sat_bind h
          refine cMV (rest := []) (wr := [(a6, .inl (cI, 36, .inl m_newDelay))]) (ws' := [(a0, .inr (12, [.int m_nodes, .int m_every, .int m_halves, .int m_age, .int m_life, .int m_first, .ref a1, .int m_undoMany, .int m_undoAt, .ref a2, .ref a3, .ref a4, .int m_letterMany, .ref a5, .int r_17.1, .int r_17.2.1, .int r_17.2.2, .int j_16, .int m_newEvery, .int m_newHalves, .int m_newAge, .int m_newLife, .int m_newFirst, .int m_newLinks, .ref a6, .int m_pathMany, .int m_pathDelay, .ref a7, .ref a8, .int m_seenMany, .ref a9, .ref a10, .ref a11])), (a5, .inl (cI, 120, .inl m_text)), (a6, .inl (cI, 36, .inl m_newDelay))]) hx hb hml hown hk w hA (k_X12_next l D cI cZ cK N a0 a1 a2 a3 a4 a5 a6 a7 a8 a9 a10 a11 m_nodes m_every m_halves m_age m_life m_first m_undoMany m_undoAt m_letterMany m_readAt_13 m_tokenAt_14 m_token_15 j_16 m_newEvery m_newHalves m_newAge m_newLife m_newFirst m_newLinks m_pathMany m_pathDelay m_seenMany m_text r_17 e_17) (me_X12_next hk.2.1) (mi_X12_next hk.2.1) (ml_X12_85 hk.2.1) ((pmn 3 [0, 1, 2] rfl rfl (by decide))) ((pmn 3 [0, 1, 2] rfl rfl (by decide))) 0 rfl rfl rfl hl.1 rfl rfl (Nat.le_of_ble_eq_true rfl) ⟨rfl, rfl, Nat.le_of_ble_eq_true rfl, Nat.le_of_ble_eq_true rfl, Nat.zero_le _, Nat.zero_le _⟩ dX12_readsItem_297 (fun H locs w => ?_)
          refine W.eq (g2 := F0 m 300 ls []) rfl ?_
          refine lv_aload_n hx hb dX12_readsItem_300 rfl (lv_at hl 0 rfl) ?_
          refine gf_X12_78 hx hb hown hk w.1 0 rfl rfl dX12_readsItem_301 ?_
          refine lv_bipush (v := 59) hx hb dX12_readsItem_304 (by decide) ?_
          refine lv_icmp_ne (tgt := 313) hx hb dX12_readsItem_306 (by decide) (fun c306 => ?_) (fun c306 => ?_)
          · have h := sat_f c306 h
            refine lv_iconst (v := 0) hx hb dX12_readsItem_313 (by decide) ?_
            have hR := hC0 _ (sat_some h)
            subst hR
            exact hret _ _ _ _ w dX12_readsItem_314
          · have h := sat_t c306 h
            refine lv_iconst (v := 1) hx hb dX12_readsItem_309 (by decide) ?_
            refine lv_goto (tgt := 314) hx hb dX12_readsItem_310 (by decide) ?_
            have hR := hC0 _ (sat_some h)
            subst hR
            exact hret _ _ _ _ w dX12_readsItem_314
        · have h := sat_t c291 h
          refine lv_iconst (v := 0) hx hb dX12_readsItem_294 (by decide) ?_
          have hR := hC0 _ (sat_some h)
          subst hR
          exact hret _ _ _ _ w dX12_readsItem_295
      refine lv_if_eq (tgt := 156) hx hb dX12_readsItem_142 (by decide) (fun c142 => ?_) (fun c142 => ?_)
      · have h := sat_t c142 h
        refine lv_aload_n hx hb dX12_readsItem_156 rfl (lv_at hl 1 rfl) ?_
        refine gf_X12_91 hx hb hown hk w.1 0 rfl rfl dX12_readsItem_157 ?_
        exact J142 m_newNodes _ _ _ (sat_some h) w (lv_sub hl [1, 0] rfl)
      · have h := sat_f c142 h
        refine lv_aload_n hx hb dX12_readsItem_145 rfl (lv_at hl 1 rfl) ?_
        refine gf_X12_78 hx hb hown hk w.1 0 rfl rfl dX12_readsItem_146 ?_
        refine lv_sipush (v := 1000) hx hb dX12_readsItem_149 (by decide) ?_
        refine lv_isub hx hb dX12_readsItem_152 ?_
        refine lv_goto (tgt := 160) hx hb dX12_readsItem_153 (by decide) ?_
        exact J142 (m_token_15 - 1000) _ _ _ (sat_some h) w (lv_sub hl [1, 0] rfl)
    refine lv_if_ne (tgt := 138) hx hb dX12_readsItem_121 (by decide) (fun c121 => ?_) (fun c121 => ?_)
    · have h := sat_f c121 h
      refine lv_iconst (v := 0) hx hb dX12_readsItem_138 (by decide) ?_
      exact J121 0 r_1.1 r_1.2.1 r_1.2.2 _ _ _ (sat_some h) w (lv_sub hl [1] rfl)
    · have h := sat_t c121 h
      refine lv_aload_n hx hb dX12_readsItem_124 rfl (lv_at hl 1 rfl) ?_
      refine lv_iconst (v := 2) hx hb dX12_readsItem_125 (by decide) ?_
      refine lv_bipush (v := 6) hx hb dX12_readsItem_126 (by decide) ?_
      obtain ⟨r_18, e_18, h⟩ := sat_bind h
      refine cMV (rest := []) (wr := [(a6, .inl (cI, 36, .inl m_newDelay))]) (ws' := [(a0, .inr (12, [.int m_nodes, .int m_every, .int m_halves, .int m_age, .int m_life, .int m_first, .ref a1, .int m_undoMany, .int m_undoAt, .ref a2, .ref a3, .ref a4, .int m_letterMany, .ref a5, .int r_18.2.1, .int r_18.2.2.1, .int r_18.2.2.2, .int m_newNodes, .int m_newEvery, .int m_newHalves, .int m_newAge, .int m_newLife, .int m_newFirst, .int m_newLinks, .ref a6, .int m_pathMany, .int m_pathDelay, .ref a7, .ref a8, .int m_seenMany, .ref a9, .ref a10, .ref a11])), (a5, .inl (cI, 120, .inl m_text)), (a6, .inl (cI, 36, .inl m_newDelay))]) hx hb hml hown hk w hA (k_X12_isNumber l D cI cZ cK N a0 a1 a2 a3 a4 a5 a6 a7 a8 a9 a10 a11 m_nodes m_every m_halves m_age m_life m_first m_undoMany m_undoAt m_letterMany r_1.1 r_1.2.1 r_1.2.2 m_newNodes m_newEvery m_newHalves m_newAge m_newLife m_newFirst m_newLinks m_pathMany m_pathDelay m_seenMany m_text 2 6 r_18 e_18) (me_X12_isNumber hk.2.1) (mi_X12_isNumber hk.2.1) (ml_X12_94 hk.2.1) ((pmn 3 [0, 1, 2] rfl rfl (by decide))) ((pmn 3 [0, 1, 2] rfl rfl (by decide))) 0 rfl rfl rfl hl.1 rfl rfl (Nat.le_of_ble_eq_true rfl) ⟨rfl, rfl, Nat.le_of_ble_eq_true rfl, Nat.le_of_ble_eq_true rfl, Nat.zero_le _, Nat.zero_le _⟩ dX12_readsItem_128 (fun H locs w => ?_)
      refine W.eq (g2 := F0 m 131 ls [.int (b2i r_18.1)]) rfl ?_
      refine lv_if_eq (tgt := 138) hx hb dX12_readsItem_131 (by decide) (fun c131 => ?_) (fun c131 => ?_)
      · have h := sat_t c131 h
        refine lv_iconst (v := 0) hx hb dX12_readsItem_138 (by decide) ?_
        exact J121 0 r_18.2.1 r_18.2.2.1 r_18.2.2.2 _ _ _ (sat_some h) w (lv_sub hl [1] rfl)
      · have h := sat_f c131 h
        refine lv_iconst (v := 1) hx hb dX12_readsItem_134 (by decide) ?_
        refine lv_goto (tgt := 139) hx hb dX12_readsItem_135 (by decide) ?_
        exact J121 1 r_18.2.1 r_18.2.2.1 r_18.2.2.2 _ _ _ (sat_some h) w (lv_sub hl [1] rfl)
  have h := sat_f c10_110 h
  have nc10_110 := ne_ti (z := 110) c10_110 (by decide)
  by_cases c10_111 : r_1.2.2 = 111
  · have h := sat_f (show ¬ r_1.2.2 = 120 from by rw [c10_111]; decide) h
    refine lv_tableIn (off := 278) (tgt := 288) hx hb dX12_readsItem_10 (by rw [c10_111]; decide) (by rw [c10_111]; decide) (by rw [c10_111]; decide) (by decide) ?_
    refine lv_iconst (v := 0) hx hb dX12_readsItem_288 (by decide) ?_
    have hR := hC0 _ (sat_some h)
    subst hR
    exact hret _ _ _ _ w dX12_readsItem_289
  have nc10_111 := ne_ti (z := 111) c10_111 (by decide)
  by_cases c10_112 : r_1.2.2 = 112
  · have h := sat_f (show ¬ r_1.2.2 = 120 from by rw [c10_112]; decide) h
    refine lv_tableIn (off := 278) (tgt := 288) hx hb dX12_readsItem_10 (by rw [c10_112]; decide) (by rw [c10_112]; decide) (by rw [c10_112]; decide) (by decide) ?_
    refine lv_iconst (v := 0) hx hb dX12_readsItem_288 (by decide) ?_
    have hR := hC0 _ (sat_some h)
    subst hR
    exact hret _ _ _ _ w dX12_readsItem_289
  have nc10_112 := ne_ti (z := 112) c10_112 (by decide)
  by_cases c10_113 : r_1.2.2 = 113
  · have h := sat_f (show ¬ r_1.2.2 = 120 from by rw [c10_113]; decide) h
    refine lv_tableIn (off := 278) (tgt := 288) hx hb dX12_readsItem_10 (by rw [c10_113]; decide) (by rw [c10_113]; decide) (by rw [c10_113]; decide) (by decide) ?_
    refine lv_iconst (v := 0) hx hb dX12_readsItem_288 (by decide) ?_
    have hR := hC0 _ (sat_some h)
    subst hR
    exact hret _ _ _ _ w dX12_readsItem_289
  have nc10_113 := ne_ti (z := 113) c10_113 (by decide)
  by_cases c10_114 : r_1.2.2 = 114
  · have h := sat_f (show ¬ r_1.2.2 = 120 from by rw [c10_114]; decide) h
    refine lv_tableIn (off := 278) (tgt := 288) hx hb dX12_readsItem_10 (by rw [c10_114]; decide) (by rw [c10_114]; decide) (by rw [c10_114]; decide) (by decide) ?_
    refine lv_iconst (v := 0) hx hb dX12_readsItem_288 (by decide) ?_
    have hR := hC0 _ (sat_some h)
    subst hR
    exact hret _ _ _ _ w dX12_readsItem_289
  have nc10_114 := ne_ti (z := 114) c10_114 (by decide)
  by_cases c10_115 : r_1.2.2 = 115
  · have h := sat_f (show ¬ r_1.2.2 = 120 from by rw [c10_115]; decide) h
    refine lv_tableIn (off := 278) (tgt := 288) hx hb dX12_readsItem_10 (by rw [c10_115]; decide) (by rw [c10_115]; decide) (by rw [c10_115]; decide) (by decide) ?_
    refine lv_iconst (v := 0) hx hb dX12_readsItem_288 (by decide) ?_
    have hR := hC0 _ (sat_some h)
    subst hR
    exact hret _ _ _ _ w dX12_readsItem_289
  have nc10_115 := ne_ti (z := 115) c10_115 (by decide)
  by_cases c10_116 : r_1.2.2 = 116
  · have h := sat_f (show ¬ r_1.2.2 = 120 from by rw [c10_116]; decide) h
    refine lv_tableIn (off := 278) (tgt := 288) hx hb dX12_readsItem_10 (by rw [c10_116]; decide) (by rw [c10_116]; decide) (by rw [c10_116]; decide) (by decide) ?_
    refine lv_iconst (v := 0) hx hb dX12_readsItem_288 (by decide) ?_
    have hR := hC0 _ (sat_some h)
    subst hR
    exact hret _ _ _ _ w dX12_readsItem_289
  have nc10_116 := ne_ti (z := 116) c10_116 (by decide)
  by_cases c10_117 : r_1.2.2 = 117
  · have h := sat_f (show ¬ r_1.2.2 = 120 from by rw [c10_117]; decide) h
    refine lv_tableIn (off := 278) (tgt := 288) hx hb dX12_readsItem_10 (by rw [c10_117]; decide) (by rw [c10_117]; decide) (by rw [c10_117]; decide) (by decide) ?_
    refine lv_iconst (v := 0) hx hb dX12_readsItem_288 (by decide) ?_
    have hR := hC0 _ (sat_some h)
    subst hR
    exact hret _ _ _ _ w dX12_readsItem_289
  have nc10_117 := ne_ti (z := 117) c10_117 (by decide)
  by_cases c10_118 : r_1.2.2 = 118
  · have h := sat_f (show ¬ r_1.2.2 = 120 from by rw [c10_118]; decide) h
    refine lv_tableIn (off := 278) (tgt := 288) hx hb dX12_readsItem_10 (by rw [c10_118]; decide) (by rw [c10_118]; decide) (by rw [c10_118]; decide) (by decide) ?_
    refine lv_iconst (v := 0) hx hb dX12_readsItem_288 (by decide) ?_
    have hR := hC0 _ (sat_some h)
    subst hR
    exact hret _ _ _ _ w dX12_readsItem_289
  have nc10_118 := ne_ti (z := 118) c10_118 (by decide)
  by_cases c10_119 : r_1.2.2 = 119
  · have h := sat_f (show ¬ r_1.2.2 = 120 from by rw [c10_119]; decide) h
    refine lv_tableIn (off := 278) (tgt := 288) hx hb dX12_readsItem_10 (by rw [c10_119]; decide) (by rw [c10_119]; decide) (by rw [c10_119]; decide) (by decide) ?_
    refine lv_iconst (v := 0) hx hb dX12_readsItem_288 (by decide) ?_
    have hR := hC0 _ (sat_some h)
    subst hR
    exact hret _ _ _ _ w dX12_readsItem_289
  have nc10_119 := ne_ti (z := 119) c10_119 (by decide)
  by_cases c10_120 : r_1.2.2 = 120
  · have h := sat_t c10_120 h
    refine lv_tableIn (off := 164) (tgt := 174) hx hb dX12_readsItem_10 (by rw [c10_120]; decide) (by rw [c10_120]; decide) (by rw [c10_120]; decide) (by decide) ?_
    refine lv_aload_n hx hb dX12_readsItem_174 rfl (lv_at hl 1 rfl) ?_
    refine lv_iconst (v := 0) hx hb dX12_readsItem_175 (by decide) ?_
    refine lv_bipush (v := 9) hx hb dX12_readsItem_176 (by decide) ?_
    obtain ⟨r_19, e_19, h⟩ := sat_bind h
    refine cMV (rest := []) (wr := [(a6, .inl (cI, 36, .inl m_newDelay))]) (ws' := [(a0, .inr (12, [.int m_nodes, .int m_every, .int m_halves, .int m_age, .int m_life, .int m_first, .ref a1, .int m_undoMany, .int m_undoAt, .ref a2, .ref a3, .ref a4, .int m_letterMany, .ref a5, .int r_19.2.1, .int r_19.2.2.1, .int r_19.2.2.2, .int m_newNodes, .int m_newEvery, .int m_newHalves, .int m_newAge, .int m_newLife, .int m_newFirst, .int m_newLinks, .ref a6, .int m_pathMany, .int m_pathDelay, .ref a7, .ref a8, .int m_seenMany, .ref a9, .ref a10, .ref a11])), (a5, .inl (cI, 120, .inl m_text)), (a6, .inl (cI, 36, .inl m_newDelay))]) hx hb hml hown hk w hA (k_X12_isNumber l D cI cZ cK N a0 a1 a2 a3 a4 a5 a6 a7 a8 a9 a10 a11 m_nodes m_every m_halves m_age m_life m_first m_undoMany m_undoAt m_letterMany r_1.1 r_1.2.1 r_1.2.2 m_newNodes m_newEvery m_newHalves m_newAge m_newLife m_newFirst m_newLinks m_pathMany m_pathDelay m_seenMany m_text 0 9 r_19 e_19) (me_X12_isNumber hk.2.1) (mi_X12_isNumber hk.2.1) (ml_X12_94 hk.2.1) ((pmn 3 [0, 1, 2] rfl rfl (by decide))) ((pmn 3 [0, 1, 2] rfl rfl (by decide))) 0 rfl rfl rfl hl.1 rfl rfl (Nat.le_of_ble_eq_true rfl) ⟨rfl, rfl, Nat.le_of_ble_eq_true rfl, Nat.le_of_ble_eq_true rfl, Nat.zero_le _, Nat.zero_le _⟩ dX12_readsItem_178 (fun H locs w => ?_)
    refine W.eq (g2 := F0 m 181 ls [.int (b2i r_19.1)]) rfl ?_
    refine lv_istore_n (lv' := [(2, .int (b2i r_19.1)), (0, .ref a0), (1, .int x1)]) hx hb dX12_readsItem_181 rfl hl (by decide) rfl (fun ls hl => ?_)
    refine lv_aload_n hx hb dX12_readsItem_182 rfl (lv_at hl 1 rfl) ?_
    refine lv_aload_n hx hb dX12_readsItem_183 rfl (lv_at hl 1 rfl) ?_
    refine gf_X12_78 hx hb hown hk w.1 0 rfl rfl dX12_readsItem_184 ?_
    refine lv_sipush (v := 1000) hx hb dX12_readsItem_187 (by decide) ?_
    refine lv_isub hx hb dX12_readsItem_190 ?_
    refine pf_X12_101 (ws' := [(a0, .inr (12, [.int m_nodes, .int m_every, .int m_halves, .int m_age, .int m_life, .int m_first, .ref a1, .int m_undoMany, .int m_undoAt, .ref a2, .ref a3, .ref a4, .int m_letterMany, .ref a5, .int r_19.2.1, .int r_19.2.2.1, .int r_19.2.2.2, .int m_newNodes, .int (r_19.2.2.2 - 1000), .int m_newHalves, .int m_newAge, .int m_newLife, .int m_newFirst, .int m_newLinks, .ref a6, .int m_pathMany, .int m_pathDelay, .ref a7, .ref a8, .int m_seenMany, .ref a9, .ref a10, .ref a11])), (a5, .inl (cI, 120, .inl m_text)), (a6, .inl (cI, 36, .inl m_newDelay))]) hx hb hown hk w 0 rfl (Nat.le_of_ble_eq_true rfl) rfl dX12_readsItem_191 (fun H locs w => ?_)
    refine lv_goto (tgt := 290) hx hb dX12_readsItem_194 (by decide) ?_
    refine lv_iload_n hx hb dX12_readsItem_290 rfl (lv_at hl 0 rfl) ?_
    refine lv_if_ne (tgt := 296) hx hb dX12_readsItem_291 (by decide) (fun c291 => ?_) (fun c291 => ?_)
    · have h := sat_f c291 h
      refine lv_aload_n hx hb dX12_readsItem_296 rfl (lv_at hl 1 rfl) ?_
      obtain ⟨r_20, e_20, h⟩ := sat_bind h
      refine cMV (rest := []) (wr := [(a6, .inl (cI, 36, .inl m_newDelay))]) (ws' := [(a0, .inr (12, [.int m_nodes, .int m_every, .int m_halves, .int m_age, .int m_life, .int m_first, .ref a1, .int m_undoMany, .int m_undoAt, .ref a2, .ref a3, .ref a4, .int m_letterMany, .ref a5, .int r_20.1, .int r_20.2.1, .int r_20.2.2, .int m_newNodes, .int (r_19.2.2.2 - 1000), .int m_newHalves, .int m_newAge, .int m_newLife, .int m_newFirst, .int m_newLinks, .ref a6, .int m_pathMany, .int m_pathDelay, .ref a7, .ref a8, .int m_seenMany, .ref a9, .ref a10, .ref a11])), (a5, .inl (cI, 120, .inl m_text)), (a6, .inl (cI, 36, .inl m_newDelay))]) hx hb hml hown hk w hA (k_X12_next l D cI cZ cK N a0 a1 a2 a3 a4 a5 a6 a7 a8 a9 a10 a11 m_nodes m_every m_halves m_age m_life m_first m_undoMany m_undoAt m_letterMany r_19.2.1 r_19.2.2.1 r_19.2.2.2 m_newNodes (r_19.2.2.2 - 1000) m_newHalves m_newAge m_newLife m_newFirst m_newLinks m_pathMany m_pathDelay m_seenMany m_text r_20 e_20) (me_X12_next hk.2.1) (mi_X12_next hk.2.1) (ml_X12_85 hk.2.1) ((pmn 3 [0, 1, 2] rfl rfl (by decide))) ((pmn 3 [0, 1, 2] rfl rfl (by decide))) 0 rfl rfl rfl hl.1 rfl rfl (Nat.le_of_ble_eq_true rfl) ⟨rfl, rfl, Nat.le_of_ble_eq_true rfl, Nat.le_of_ble_eq_true rfl, Nat.zero_le _, Nat.zero_le _⟩ dX12_readsItem_297 (fun H locs w => ?_)
      refine W.eq (g2 := F0 m 300 ls []) rfl ?_
      refine lv_aload_n hx hb dX12_readsItem_300 rfl (lv_at hl 1 rfl) ?_
      refine gf_X12_78 hx hb hown hk w.1 0 rfl rfl dX12_readsItem_301 ?_
      refine lv_bipush (v := 59) hx hb dX12_readsItem_304 (by decide) ?_
      refine lv_icmp_ne (tgt := 313) hx hb dX12_readsItem_306 (by decide) (fun c306 => ?_) (fun c306 => ?_)
      · have h := sat_f c306 h
        refine lv_iconst (v := 0) hx hb dX12_readsItem_313 (by decide) ?_
        have hR := hC0 _ (sat_some h)
        subst hR
        exact hret _ _ _ _ w dX12_readsItem_314
      · have h := sat_t c306 h
        refine lv_iconst (v := 1) hx hb dX12_readsItem_309 (by decide) ?_
        refine lv_goto (tgt := 314) hx hb dX12_readsItem_310 (by decide) ?_
        have hR := hC0 _ (sat_some h)
        subst hR
        exact hret _ _ _ _ w dX12_readsItem_314
    · have h := sat_t c291 h
      refine lv_iconst (v := 0) hx hb dX12_readsItem_294 (by decide) ?_
      have hR := hC0 _ (sat_some h)
      subst hR
      exact hret _ _ _ _ w dX12_readsItem_295
  have h := sat_f c10_120 h
  have nc10_120 := ne_ti (z := 120) c10_120 (by decide)
  refine lv_tableOut (tgt := 288) hx hb dX12_readsItem_10 (by omega) (by decide) ?_
  refine lv_iconst (v := 0) hx hb dX12_readsItem_288 (by decide) ?_
  have hR := hC0 _ (sat_some h)
  subst hR
  exact hret _ _ _ _ w dX12_readsItem_289
def f_X12_begins_L2 : Nat → Int32 → ar → Option (ar)
  | 0, _, _ => none
  | n + 1, x1_2, ow_2 => if 622 ≤ x1_2 then some ow_2 else if 406 ≤ x1_2 then ck (inb x1_2 622) (f_X12_begins_L2 n (x1_2 + 1) (upd ow_2 x1_2.toNatClampNeg (-1))) else ck (inb x1_2 622) (f_X12_begins_L2 n (x1_2 + 1) (upd ow_2 x1_2.toNatClampNeg 0))
def f_X12_begins (N : Nat) (ow : ar) : Option (ar) := Option.bind (f_X12_begins_L2 N 0 ow) fun s2 => ck (inb 1 622) (some (upd s2 (1 : Int32).toNatClampNeg (-1)))
abbrev rm_X12_begins : Room := { frames := 0, cells := 0, slots := 0, locals := 0 }
set_option maxRecDepth 100000 in
set_option maxHeartbeats 4000000 in
theorem k_X12_begins (l : Launch) (D : va_G) (cI cZ cK : ClassId) (N : Nat) (b0 : Nat) (ow : ar) (R : ar) (h : f_X12_begins N ow = some R) : Mu l D cI cZ cK yX12_begins cX12_begins 2 none rm_X12_begins [.ref b0] [(b0, .inl (cI, 622, .inl ow))] none [(b0, .inl (cI, 622, .inl R))] := by
  refine mv_of (by decide) (Nat.le_of_ble_eq_true rfl) ?_
  intro p e s m args below meth c Q A ls hx hb hml hown hk hA w hret hl
  have hl : lv_has ls 2 [(0, .ref b0)] := hl
  obtain ⟨C0, hC0, h⟩ := sat_top h
  unfold f_X12_begins at h
  refine lv_iconst (v := 0) hx hb dX12_begins_0 (by decide) ?_
  refine lv_istore_n (lv' := [(1, .int 0), (0, .ref b0)]) hx hb dX12_begins_1 rfl hl (by decide) rfl (fun ls hl => ?_)
  obtain ⟨T2, hT2, h⟩ := sat_reg h
  have E2 : ∀ (ow_1 : ar) (H : Heap) (locs : List Loc) (ls : Array Slot), T2 ow_1 → wd D A s.heap H locs [(b0, .inl (cI, 622, .inl ow_1))] → lv_has ls 2 [(0, .ref b0)] → W p l e rm_X12_begins s m args below meth c H locs 0 0 Q (F0 m 30 ls []) := by
    intro ow_1 H locs ls h w hl
    have h := hT2 _ h
    refine lv_aload_n hx hb dX12_begins_30 rfl (lv_at hl 0 rfl) ?_
    refine lv_iconst (v := 1) hx hb dX12_begins_31 (by decide) ?_
    refine lv_iconst (v := (-1)) hx hb dX12_begins_32 (by decide) ?_
    obtain ⟨hi, h⟩ := sat_in h
    refine ra_ist (ws' := [(b0, .inl (cI, 622, .inl (upd ow_1 (1 : Int32).toNatClampNeg (-1))))]) hx hb hk w 0 rfl hi rfl dX12_begins_33 (fun H locs w => ?_)
    have hR := hC0 _ (sat_some h)
    subst hR
    exact hret _ _ _ _ w dX12_begins_34
  have L2 : ∀ (n : Nat) (x1_2 : Int32) (ow_2 : ar) (H : Heap) (locs : List Loc) (ls : Array Slot), sat (f_X12_begins_L2 n x1_2 ow_2) T2 → wd D A s.heap H locs [(b0, .inl (cI, 622, .inl ow_2))] → lv_has ls 2 [(0, .ref b0), (1, .int x1_2)] → W p l e rm_X12_begins s m args below meth c H locs 0 0 Q (F0 m 2 ls []) := by
    intro n
    induction n with
    | zero =>
      intro x1_2 ow_2 H locs ls h
      rw [f_X12_begins_L2] at h
      exact (sat_none h).elim
    | succ n ih =>
      intro x1_2 ow_2 H locs ls h w hl
      rw [f_X12_begins_L2] at h
      refine lv_iload_n hx hb dX12_begins_2 rfl (lv_at hl 1 rfl) ?_
      refine lv_sipush (v := 622) hx hb dX12_begins_3 (by decide) ?_
      refine lv_icmp_ge (tgt := 30) hx hb dX12_begins_6 (by decide) (fun c6 => ?_) (fun c6 => ?_)
      · have h := sat_t c6 h
        exact E2 ow_2 _ _ _ (sat_some h) w (lv_sub hl [0] rfl)
      · have h := sat_f c6 h
        refine lv_aload_n hx hb dX12_begins_9 rfl (lv_at hl 0 rfl) ?_
        refine lv_iload_n hx hb dX12_begins_10 rfl (lv_at hl 1 rfl) ?_
        refine lv_iload_n hx hb dX12_begins_11 rfl (lv_at hl 1 rfl) ?_
        refine lv_sipush (v := 406) hx hb dX12_begins_12 (by decide) ?_
        refine lv_icmp_ge (tgt := 22) hx hb dX12_begins_15 (by decide) (fun c15 => ?_) (fun c15 => ?_)
        · have h := sat_t c15 h
          refine lv_iconst (v := (-1)) hx hb dX12_begins_22 (by decide) ?_
          obtain ⟨hi, h⟩ := sat_in h
          refine ra_ist (ws' := [(b0, .inl (cI, 622, .inl (upd ow_2 x1_2.toNatClampNeg (-1))))]) hx hb hk w 0 rfl hi rfl dX12_begins_23 (fun H locs w => ?_)
          refine lv_iinc (v := x1_2 + 1) (lv' := [(1, .int (x1_2 + 1)), (0, .ref b0)]) hx hb dX12_begins_24 hl (k := 1) rfl (congrArg (fun z => x1_2 + z) (by decide)) (by decide) rfl (fun ls hl => ?_)
          refine lv_goto (tgt := 2) hx hb dX12_begins_27 (by decide) ?_
          exact ih (x1_2 + 1) (upd ow_2 x1_2.toNatClampNeg (-1)) _ _ _ h w (lv_sub hl [1, 0] rfl)
        · have h := sat_f c15 h
          refine lv_iconst (v := 0) hx hb dX12_begins_18 (by decide) ?_
          refine lv_goto (tgt := 23) hx hb dX12_begins_19 (by decide) ?_
          obtain ⟨hi, h⟩ := sat_in h
          refine ra_ist (ws' := [(b0, .inl (cI, 622, .inl (upd ow_2 x1_2.toNatClampNeg 0)))]) hx hb hk w 0 rfl hi rfl dX12_begins_23 (fun H locs w => ?_)
          refine lv_iinc (v := x1_2 + 1) (lv' := [(1, .int (x1_2 + 1)), (0, .ref b0)]) hx hb dX12_begins_24 hl (k := 1) rfl (congrArg (fun z => x1_2 + z) (by decide)) (by decide) rfl (fun ls hl => ?_)
          refine lv_goto (tgt := 2) hx hb dX12_begins_27 (by decide) ?_
          exact ih (x1_2 + 1) (upd ow_2 x1_2.toNatClampNeg 0) _ _ _ h w (lv_sub hl [1, 0] rfl)
  exact L2 N 0 ow _ _ _ h w (lv_sub hl [1, 0] rfl)
def f_X12_net_L39 : Nat → Int32 → ar → Option (ar)
  | 0, _, _ => none
  | n + 1, x1_39, m_newDelay_39 => if 36 ≤ x1_39 then some m_newDelay_39 else ck (inb x1_39 36) (f_X12_net_L39 n (x1_39 + 1) (upd m_newDelay_39 x1_39.toNatClampNeg 0))
def f_X12_net_L69 (m_nodes : Int32) (m_every : Int32) (m_halves : Int32) (m_age : Int32) (m_life : Int32) (m_first : Int32) (m_now : ar) (m_undoMany : Int32) (m_isKept : ar) (m_letterMany : Int32) (m_text : ar) (m_seenMany : Int32) (N : Nat) : Nat → Int32 → Int32 → Int32 → Int32 → Int32 → Int32 → Int32 → Int32 → Int32 → Int32 → Int32 → ar → Option ((Int32 × Int32 × Int32 × Int32 × Int32 × Int32 × Int32 × Int32 × Int32 × Int32 × Int32 × Int32 × Int32 × Int32 × Int32 × Int32 × Int32 × Int32 × Int32 × Int32 × ar × ar × ar) ⊕ (Int32 × Int32 × Int32 × Int32 × Int32 × Int32 × Int32 × Int32 × Int32 × Int32 × Int32 × ar))
  | 0, _, _, _, _, _, _, _, _, _, _, _, _ => none
  | n + 1, x1_69, m_readAt_69, m_tokenAt_69, m_token_69, m_newNodes_69, m_newEvery_69, m_newHalves_69, m_newAge_69, m_newLife_69, m_newFirst_69, m_newLinks_69, m_newDelay_69 => if m_letterMany ≤ m_readAt_69 then some (.inr (x1_69, m_readAt_69, m_tokenAt_69, m_token_69, m_newNodes_69, m_newEvery_69, m_newHalves_69, m_newAge_69, m_newLife_69, m_newFirst_69, m_newLinks_69, m_newDelay_69)) else Option.bind (f_X12_readsItem N m_letterMany m_text m_readAt_69 m_newNodes_69 m_newEvery_69 m_newHalves_69 m_newAge_69 m_newLife_69 m_newFirst_69 m_newLinks_69 m_newDelay_69 x1_69) fun r_3 => if (b2i r_3.1) = 0 then some (.inl ((-10) - r_3.2.2.1, m_nodes, m_every, m_halves, m_age, m_life, m_first, m_undoMany, m_letterMany, r_3.2.1, r_3.2.2.1, r_3.2.2.2.1, r_3.2.2.2.2.1, r_3.2.2.2.2.2.1, r_3.2.2.2.2.2.2.1, r_3.2.2.2.2.2.2.2.1, r_3.2.2.2.2.2.2.2.2.1, r_3.2.2.2.2.2.2.2.2.2.1, r_3.2.2.2.2.2.2.2.2.2.2.1, m_seenMany, m_now, m_isKept, r_3.2.2.2.2.2.2.2.2.2.2.2)) else Option.bind (f_X12_blanks N m_letterMany m_text r_3.2.1) fun r_4 => f_X12_net_L69 m_nodes m_every m_halves m_age m_life m_first m_now m_undoMany m_isKept m_letterMany m_text m_seenMany N n (x1_69 + 1) r_4 r_3.2.2.1 r_3.2.2.2.1 r_3.2.2.2.2.1 r_3.2.2.2.2.2.1 r_3.2.2.2.2.2.2.1 r_3.2.2.2.2.2.2.2.1 r_3.2.2.2.2.2.2.2.2.1 r_3.2.2.2.2.2.2.2.2.2.1 r_3.2.2.2.2.2.2.2.2.2.2.1 r_3.2.2.2.2.2.2.2.2.2.2.2
def f_X12_net_L168 (m_newDelay_16 : ar) : Nat → Int32 → ar → Option (ar)
  | 0, _, _ => none
  | n + 1, x2_168, m_now_168 => if 36 ≤ x2_168 then some m_now_168 else ck (inb x2_168 36) (ck (inb (118 + x2_168) 622) (f_X12_net_L168 m_newDelay_16 n (x2_168 + 1) (upd m_now_168 (118 + x2_168).toNatClampNeg (m_newDelay_16 x2_168.toNatClampNeg))))
def f_X12_net (N : Nat) (m_nodes : Int32) (m_every : Int32) (m_halves : Int32) (m_age : Int32) (m_life : Int32) (m_first : Int32) (m_now : ar) (m_undoMany : Int32) (m_isKept : ar) (m_letterMany : Int32) (m_text : ar) (m_tokenAt : Int32) (m_token : Int32) (m_newDelay : ar) (m_seenMany : Int32) : Option (Int32 × Int32 × Int32 × Int32 × Int32 × Int32 × Int32 × Int32 × Int32 × Int32 × Int32 × Int32 × Int32 × Int32 × Int32 × Int32 × Int32 × Int32 × Int32 × Int32 × ar × ar × ar) := Option.bind (f_X12_net_L39 N 0 m_newDelay) fun s39 => Option.bind (f_X12_blanks N m_letterMany m_text 0) fun r_2 => lb (f_X12_net_L69 m_nodes m_every m_halves m_age m_life m_first m_now m_undoMany m_isKept m_letterMany m_text m_seenMany N N 0 r_2 m_tokenAt m_token 2 0 0 99 60 0 0 s39) fun s69 => Option.bind (f_X12_begins N m_now) fun r_17 => Option.bind (f_X12_net_L168 s69.2.2.2.2.2.2.2.2.2.2.2 N 0 r_17) fun s168 => ck (inb 0 2) (ck (inb 1 2) (some (s69.1, s69.2.2.2.2.1, s69.2.2.2.2.2.1, s69.2.2.2.2.2.2.1, s69.2.2.2.2.2.2.2.1, s69.2.2.2.2.2.2.2.2.1, s69.2.2.2.2.2.2.2.2.2.1, 0, 0, s69.2.1, s69.2.2.1, s69.2.2.2.1, s69.2.2.2.2.1, s69.2.2.2.2.2.1, s69.2.2.2.2.2.2.1, s69.2.2.2.2.2.2.2.1, s69.2.2.2.2.2.2.2.2.1, s69.2.2.2.2.2.2.2.2.2.1, s69.2.2.2.2.2.2.2.2.2.2.1, 0, s168, upd (upd m_isKept (0 : Int32).toNatClampNeg 0) (1 : Int32).toNatClampNeg 0, s69.2.2.2.2.2.2.2.2.2.2.2)))
abbrev rm_X12_net : Room := { frames := 6, cells := 0, slots := 0, locals := 129 }
set_option maxRecDepth 100000 in
set_option maxHeartbeats 4000000 in
theorem k_X12_net (l : Launch) (D : va_G) (cI cZ cK : ClassId) (N : Nat) (a0 a1 a2 a3 a4 a5 a6 a7 a8 a9 a10 a11 : Nat) (m_nodes : Int32) (m_every : Int32) (m_halves : Int32) (m_age : Int32) (m_life : Int32) (m_first : Int32) (m_undoMany : Int32) (m_undoAt : Int32) (m_letterMany : Int32) (m_readAt : Int32) (m_tokenAt : Int32) (m_token : Int32) (m_newNodes : Int32) (m_newEvery : Int32) (m_newHalves : Int32) (m_newAge : Int32) (m_newLife : Int32) (m_newFirst : Int32) (m_newLinks : Int32) (m_pathMany : Int32) (m_pathDelay : Int32) (m_seenMany : Int32) (m_now : ar) (m_isKept : ar) (m_text : ar) (m_newDelay : ar) (R : Int32 × Int32 × Int32 × Int32 × Int32 × Int32 × Int32 × Int32 × Int32 × Int32 × Int32 × Int32 × Int32 × Int32 × Int32 × Int32 × Int32 × Int32 × Int32 × Int32 × ar × ar × ar) (h : f_X12_net N m_nodes m_every m_halves m_age m_life m_first m_now m_undoMany m_isKept m_letterMany m_text m_tokenAt m_token m_newDelay m_seenMany = some R) : Mu l D cI cZ cK yX12_net cX12_net 3 (some .int) rm_X12_net [.ref a0] [(a0, .inr (12, [.int m_nodes, .int m_every, .int m_halves, .int m_age, .int m_life, .int m_first, .ref a1, .int m_undoMany, .int m_undoAt, .ref a2, .ref a3, .ref a4, .int m_letterMany, .ref a5, .int m_readAt, .int m_tokenAt, .int m_token, .int m_newNodes, .int m_newEvery, .int m_newHalves, .int m_newAge, .int m_newLife, .int m_newFirst, .int m_newLinks, .ref a6, .int m_pathMany, .int m_pathDelay, .ref a7, .ref a8, .int m_seenMany, .ref a9, .ref a10, .ref a11])), (a1, .inl (cI, 622, .inl m_now)), (a3, .inl (cZ, 2, .inl m_isKept)), (a5, .inl (cI, 120, .inl m_text)), (a6, .inl (cI, 36, .inl m_newDelay))] (some (.int R.1)) [(a0, .inr (12, [.int R.2.1, .int R.2.2.1, .int R.2.2.2.1, .int R.2.2.2.2.1, .int R.2.2.2.2.2.1, .int R.2.2.2.2.2.2.1, .ref a1, .int R.2.2.2.2.2.2.2.1, .int m_undoAt, .ref a2, .ref a3, .ref a4, .int R.2.2.2.2.2.2.2.2.1, .ref a5, .int R.2.2.2.2.2.2.2.2.2.1, .int R.2.2.2.2.2.2.2.2.2.2.1, .int R.2.2.2.2.2.2.2.2.2.2.2.1, .int R.2.2.2.2.2.2.2.2.2.2.2.2.1, .int R.2.2.2.2.2.2.2.2.2.2.2.2.2.1, .int R.2.2.2.2.2.2.2.2.2.2.2.2.2.2.1, .int R.2.2.2.2.2.2.2.2.2.2.2.2.2.2.2.1, .int R.2.2.2.2.2.2.2.2.2.2.2.2.2.2.2.2.1, .int R.2.2.2.2.2.2.2.2.2.2.2.2.2.2.2.2.2.1, .int R.2.2.2.2.2.2.2.2.2.2.2.2.2.2.2.2.2.2.1, .ref a6, .int m_pathMany, .int m_pathDelay, .ref a7, .ref a8, .int R.2.2.2.2.2.2.2.2.2.2.2.2.2.2.2.2.2.2.2.1, .ref a9, .ref a10, .ref a11])), (a1, .inl (cI, 622, .inl R.2.2.2.2.2.2.2.2.2.2.2.2.2.2.2.2.2.2.2.2.1)), (a3, .inl (cZ, 2, .inl R.2.2.2.2.2.2.2.2.2.2.2.2.2.2.2.2.2.2.2.2.2.1)), (a5, .inl (cI, 120, .inl m_text)), (a6, .inl (cI, 36, .inl R.2.2.2.2.2.2.2.2.2.2.2.2.2.2.2.2.2.2.2.2.2.2))] := by
  refine mi_of (by decide) (vp_nar_int _) (Nat.le_of_ble_eq_true rfl) ?_
  intro p e s m args below meth c Q A ls hx hb hml hown hk hA w hret hl
  have hl : lv_has ls 3 [(0, .ref a0)] := hl
  obtain ⟨C0, hC0, h⟩ := sat_top h
  unfold f_X12_net at h
  refine lv_aload_n hx hb dX12_net_0 rfl (lv_at hl 0 rfl) ?_
  refine lv_iconst (v := 2) hx hb dX12_net_1 (by decide) ?_
  refine pf_X12_91 (ws' := [(a0, .inr (12, [.int m_nodes, .int m_every, .int m_halves, .int m_age, .int m_life, .int m_first, .ref a1, .int m_undoMany, .int m_undoAt, .ref a2, .ref a3, .ref a4, .int m_letterMany, .ref a5, .int m_readAt, .int m_tokenAt, .int m_token, .int 2, .int m_newEvery, .int m_newHalves, .int m_newAge, .int m_newLife, .int m_newFirst, .int m_newLinks, .ref a6, .int m_pathMany, .int m_pathDelay, .ref a7, .ref a8, .int m_seenMany, .ref a9, .ref a10, .ref a11])), (a1, .inl (cI, 622, .inl m_now)), (a3, .inl (cZ, 2, .inl m_isKept)), (a5, .inl (cI, 120, .inl m_text)), (a6, .inl (cI, 36, .inl m_newDelay))]) hx hb hown hk w 0 rfl (Nat.le_of_ble_eq_true rfl) rfl dX12_net_2 (fun H locs w => ?_)
  refine lv_aload_n hx hb dX12_net_5 rfl (lv_at hl 0 rfl) ?_
  refine lv_iconst (v := 0) hx hb dX12_net_6 (by decide) ?_
  refine pf_X12_101 (ws' := [(a0, .inr (12, [.int m_nodes, .int m_every, .int m_halves, .int m_age, .int m_life, .int m_first, .ref a1, .int m_undoMany, .int m_undoAt, .ref a2, .ref a3, .ref a4, .int m_letterMany, .ref a5, .int m_readAt, .int m_tokenAt, .int m_token, .int 2, .int 0, .int m_newHalves, .int m_newAge, .int m_newLife, .int m_newFirst, .int m_newLinks, .ref a6, .int m_pathMany, .int m_pathDelay, .ref a7, .ref a8, .int m_seenMany, .ref a9, .ref a10, .ref a11])), (a1, .inl (cI, 622, .inl m_now)), (a3, .inl (cZ, 2, .inl m_isKept)), (a5, .inl (cI, 120, .inl m_text)), (a6, .inl (cI, 36, .inl m_newDelay))]) hx hb hown hk w 0 rfl (Nat.le_of_ble_eq_true rfl) rfl dX12_net_7 (fun H locs w => ?_)
  refine lv_aload_n hx hb dX12_net_10 rfl (lv_at hl 0 rfl) ?_
  refine lv_iconst (v := 0) hx hb dX12_net_11 (by decide) ?_
  refine pf_X12_104 (ws' := [(a0, .inr (12, [.int m_nodes, .int m_every, .int m_halves, .int m_age, .int m_life, .int m_first, .ref a1, .int m_undoMany, .int m_undoAt, .ref a2, .ref a3, .ref a4, .int m_letterMany, .ref a5, .int m_readAt, .int m_tokenAt, .int m_token, .int 2, .int 0, .int 0, .int m_newAge, .int m_newLife, .int m_newFirst, .int m_newLinks, .ref a6, .int m_pathMany, .int m_pathDelay, .ref a7, .ref a8, .int m_seenMany, .ref a9, .ref a10, .ref a11])), (a1, .inl (cI, 622, .inl m_now)), (a3, .inl (cZ, 2, .inl m_isKept)), (a5, .inl (cI, 120, .inl m_text)), (a6, .inl (cI, 36, .inl m_newDelay))]) hx hb hown hk w 0 rfl (Nat.le_of_ble_eq_true rfl) rfl dX12_net_12 (fun H locs w => ?_)
  refine lv_aload_n hx hb dX12_net_15 rfl (lv_at hl 0 rfl) ?_
  refine lv_bipush (v := 99) hx hb dX12_net_16 (by decide) ?_
  refine pf_X12_107 (ws' := [(a0, .inr (12, [.int m_nodes, .int m_every, .int m_halves, .int m_age, .int m_life, .int m_first, .ref a1, .int m_undoMany, .int m_undoAt, .ref a2, .ref a3, .ref a4, .int m_letterMany, .ref a5, .int m_readAt, .int m_tokenAt, .int m_token, .int 2, .int 0, .int 0, .int 99, .int m_newLife, .int m_newFirst, .int m_newLinks, .ref a6, .int m_pathMany, .int m_pathDelay, .ref a7, .ref a8, .int m_seenMany, .ref a9, .ref a10, .ref a11])), (a1, .inl (cI, 622, .inl m_now)), (a3, .inl (cZ, 2, .inl m_isKept)), (a5, .inl (cI, 120, .inl m_text)), (a6, .inl (cI, 36, .inl m_newDelay))]) hx hb hown hk w 0 rfl (Nat.le_of_ble_eq_true rfl) rfl dX12_net_18 (fun H locs w => ?_)
  refine lv_aload_n hx hb dX12_net_21 rfl (lv_at hl 0 rfl) ?_
  refine lv_bipush (v := 60) hx hb dX12_net_22 (by decide) ?_
  refine pf_X12_110 (ws' := [(a0, .inr (12, [.int m_nodes, .int m_every, .int m_halves, .int m_age, .int m_life, .int m_first, .ref a1, .int m_undoMany, .int m_undoAt, .ref a2, .ref a3, .ref a4, .int m_letterMany, .ref a5, .int m_readAt, .int m_tokenAt, .int m_token, .int 2, .int 0, .int 0, .int 99, .int 60, .int m_newFirst, .int m_newLinks, .ref a6, .int m_pathMany, .int m_pathDelay, .ref a7, .ref a8, .int m_seenMany, .ref a9, .ref a10, .ref a11])), (a1, .inl (cI, 622, .inl m_now)), (a3, .inl (cZ, 2, .inl m_isKept)), (a5, .inl (cI, 120, .inl m_text)), (a6, .inl (cI, 36, .inl m_newDelay))]) hx hb hown hk w 0 rfl (Nat.le_of_ble_eq_true rfl) rfl dX12_net_24 (fun H locs w => ?_)
  refine lv_aload_n hx hb dX12_net_27 rfl (lv_at hl 0 rfl) ?_
  refine lv_iconst (v := 0) hx hb dX12_net_28 (by decide) ?_
  refine pf_X12_113 (ws' := [(a0, .inr (12, [.int m_nodes, .int m_every, .int m_halves, .int m_age, .int m_life, .int m_first, .ref a1, .int m_undoMany, .int m_undoAt, .ref a2, .ref a3, .ref a4, .int m_letterMany, .ref a5, .int m_readAt, .int m_tokenAt, .int m_token, .int 2, .int 0, .int 0, .int 99, .int 60, .int 0, .int m_newLinks, .ref a6, .int m_pathMany, .int m_pathDelay, .ref a7, .ref a8, .int m_seenMany, .ref a9, .ref a10, .ref a11])), (a1, .inl (cI, 622, .inl m_now)), (a3, .inl (cZ, 2, .inl m_isKept)), (a5, .inl (cI, 120, .inl m_text)), (a6, .inl (cI, 36, .inl m_newDelay))]) hx hb hown hk w 0 rfl (Nat.le_of_ble_eq_true rfl) rfl dX12_net_29 (fun H locs w => ?_)
  refine lv_aload_n hx hb dX12_net_32 rfl (lv_at hl 0 rfl) ?_
  refine lv_iconst (v := 0) hx hb dX12_net_33 (by decide) ?_
  refine pf_X12_88 (ws' := [(a0, .inr (12, [.int m_nodes, .int m_every, .int m_halves, .int m_age, .int m_life, .int m_first, .ref a1, .int m_undoMany, .int m_undoAt, .ref a2, .ref a3, .ref a4, .int m_letterMany, .ref a5, .int m_readAt, .int m_tokenAt, .int m_token, .int 2, .int 0, .int 0, .int 99, .int 60, .int 0, .int 0, .ref a6, .int m_pathMany, .int m_pathDelay, .ref a7, .ref a8, .int m_seenMany, .ref a9, .ref a10, .ref a11])), (a1, .inl (cI, 622, .inl m_now)), (a3, .inl (cZ, 2, .inl m_isKept)), (a5, .inl (cI, 120, .inl m_text)), (a6, .inl (cI, 36, .inl m_newDelay))]) hx hb hown hk w 0 rfl (Nat.le_of_ble_eq_true rfl) rfl dX12_net_34 (fun H locs w => ?_)
  refine lv_iconst (v := 0) hx hb dX12_net_37 (by decide) ?_
  refine lv_istore_n (lv' := [(1, .int 0), (0, .ref a0)]) hx hb dX12_net_38 rfl hl (by decide) rfl (fun ls hl => ?_)
  obtain ⟨T39, hT39, h⟩ := sat_reg h
  have E39 : ∀ (m_newDelay_1 : ar) (H : Heap) (locs : List Loc) (ls : Array Slot), T39 m_newDelay_1 → wd D A s.heap H locs [(a0, .inr (12, [.int m_nodes, .int m_every, .int m_halves, .int m_age, .int m_life, .int m_first, .ref a1, .int m_undoMany, .int m_undoAt, .ref a2, .ref a3, .ref a4, .int m_letterMany, .ref a5, .int m_readAt, .int m_tokenAt, .int m_token, .int 2, .int 0, .int 0, .int 99, .int 60, .int 0, .int 0, .ref a6, .int m_pathMany, .int m_pathDelay, .ref a7, .ref a8, .int m_seenMany, .ref a9, .ref a10, .ref a11])), (a1, .inl (cI, 622, .inl m_now)), (a3, .inl (cZ, 2, .inl m_isKept)), (a5, .inl (cI, 120, .inl m_text)), (a6, .inl (cI, 36, .inl m_newDelay_1))] → lv_has ls 3 [(0, .ref a0)] → W p l e rm_X12_net s m args below meth c H locs 0 0 Q (F0 m 58 ls []) := by
    intro m_newDelay_1 H locs ls h w hl
    have h := hT39 _ h
    refine lv_aload_n hx hb dX12_net_58 rfl (lv_at hl 0 rfl) ?_
    refine lv_iconst (v := 0) hx hb dX12_net_59 (by decide) ?_
    refine pf_X12_69 (ws' := [(a0, .inr (12, [.int m_nodes, .int m_every, .int m_halves, .int m_age, .int m_life, .int m_first, .ref a1, .int m_undoMany, .int m_undoAt, .ref a2, .ref a3, .ref a4, .int m_letterMany, .ref a5, .int 0, .int m_tokenAt, .int m_token, .int 2, .int 0, .int 0, .int 99, .int 60, .int 0, .int 0, .ref a6, .int m_pathMany, .int m_pathDelay, .ref a7, .ref a8, .int m_seenMany, .ref a9, .ref a10, .ref a11])), (a1, .inl (cI, 622, .inl m_now)), (a3, .inl (cZ, 2, .inl m_isKept)), (a5, .inl (cI, 120, .inl m_text)), (a6, .inl (cI, 36, .inl m_newDelay_1))]) hx hb hown hk w 0 rfl (Nat.le_of_ble_eq_true rfl) rfl dX12_net_60 (fun H locs w => ?_)
    refine lv_iconst (v := 0) hx hb dX12_net_63 (by decide) ?_
    refine lv_istore_n (lv' := [(1, .int 0), (0, .ref a0)]) hx hb dX12_net_64 rfl hl (by decide) rfl (fun ls hl => ?_)
    refine lv_aload_n hx hb dX12_net_65 rfl (lv_at hl 1 rfl) ?_
    obtain ⟨r_2, e_2, h⟩ := sat_bind h
    refine cMV (rest := []) (wr := [(a1, .inl (cI, 622, .inl m_now)), (a3, .inl (cZ, 2, .inl m_isKept)), (a6, .inl (cI, 36, .inl m_newDelay_1))]) (ws' := [(a0, .inr (12, [.int m_nodes, .int m_every, .int m_halves, .int m_age, .int m_life, .int m_first, .ref a1, .int m_undoMany, .int m_undoAt, .ref a2, .ref a3, .ref a4, .int m_letterMany, .ref a5, .int r_2, .int m_tokenAt, .int m_token, .int 2, .int 0, .int 0, .int 99, .int 60, .int 0, .int 0, .ref a6, .int m_pathMany, .int m_pathDelay, .ref a7, .ref a8, .int m_seenMany, .ref a9, .ref a10, .ref a11])), (a1, .inl (cI, 622, .inl m_now)), (a3, .inl (cZ, 2, .inl m_isKept)), (a5, .inl (cI, 120, .inl m_text)), (a6, .inl (cI, 36, .inl m_newDelay_1))]) hx hb hml hown hk w hA (k_X12_blanks l D cI cZ cK N a0 a1 a2 a3 a4 a5 a6 a7 a8 a9 a10 a11 m_nodes m_every m_halves m_age m_life m_first m_undoMany m_undoAt m_letterMany 0 m_tokenAt m_token 2 0 0 99 60 0 0 m_pathMany m_pathDelay m_seenMany m_text r_2 e_2) (me_X12_blanks hk.2.1) (mi_X12_blanks hk.2.1) (ml_X12_72 hk.2.1) ((pmn 5 [0, 3, 1, 2, 4] rfl rfl (by decide))) ((pmn 5 [0, 2, 3, 1, 4] rfl rfl (by decide))) 0 rfl rfl rfl hl.1 rfl rfl (Nat.le_of_ble_eq_true rfl) ⟨rfl, rfl, Nat.le_of_ble_eq_true rfl, Nat.le_of_ble_eq_true rfl, Nat.zero_le _, Nat.zero_le _⟩ dX12_net_66 (fun H locs w => ?_)
    refine W.eq (g2 := F0 m 69 ls []) rfl ?_
    obtain ⟨T69, hr69, hT69, h⟩ := sat_lbr h
    have E69 : ∀ (e1_5 : Int32) (m_readAt_6 : Int32) (m_tokenAt_7 : Int32) (m_token_8 : Int32) (m_newNodes_9 : Int32) (m_newEvery_10 : Int32) (m_newHalves_11 : Int32) (m_newAge_12 : Int32) (m_newLife_13 : Int32) (m_newFirst_14 : Int32) (m_newLinks_15 : Int32) (m_newDelay_16 : ar) (H : Heap) (locs : List Loc) (ls : Array Slot), T69 (.inr (e1_5, m_readAt_6, m_tokenAt_7, m_token_8, m_newNodes_9, m_newEvery_10, m_newHalves_11, m_newAge_12, m_newLife_13, m_newFirst_14, m_newLinks_15, m_newDelay_16)) → wd D A s.heap H locs [(a0, .inr (12, [.int m_nodes, .int m_every, .int m_halves, .int m_age, .int m_life, .int m_first, .ref a1, .int m_undoMany, .int m_undoAt, .ref a2, .ref a3, .ref a4, .int m_letterMany, .ref a5, .int m_readAt_6, .int m_tokenAt_7, .int m_token_8, .int m_newNodes_9, .int m_newEvery_10, .int m_newHalves_11, .int m_newAge_12, .int m_newLife_13, .int m_newFirst_14, .int m_newLinks_15, .ref a6, .int m_pathMany, .int m_pathDelay, .ref a7, .ref a8, .int m_seenMany, .ref a9, .ref a10, .ref a11])), (a1, .inl (cI, 622, .inl m_now)), (a3, .inl (cZ, 2, .inl m_isKept)), (a5, .inl (cI, 120, .inl m_text)), (a6, .inl (cI, 36, .inl m_newDelay_16))] → lv_has ls 3 [(0, .ref a0), (1, .int e1_5)] → W p l e rm_X12_net s m args below meth c H locs 0 0 Q (F0 m 106 ls []) := by
      intro e1_5 m_readAt_6 m_tokenAt_7 m_token_8 m_newNodes_9 m_newEvery_10 m_newHalves_11 m_newAge_12 m_newLife_13 m_newFirst_14 m_newLinks_15 m_newDelay_16 H locs ls h w hl
      have h := hT69 _ h
      dsimp only at h
      refine lv_aload_n hx hb dX12_net_106 rfl (lv_at hl 0 rfl) ?_
      refine lv_iconst (v := 0) hx hb dX12_net_107 (by decide) ?_
      refine pf_X12_66 (ws' := [(a0, .inr (12, [.int m_nodes, .int m_every, .int m_halves, .int m_age, .int m_life, .int m_first, .ref a1, .int m_undoMany, .int m_undoAt, .ref a2, .ref a3, .ref a4, .int 0, .ref a5, .int m_readAt_6, .int m_tokenAt_7, .int m_token_8, .int m_newNodes_9, .int m_newEvery_10, .int m_newHalves_11, .int m_newAge_12, .int m_newLife_13, .int m_newFirst_14, .int m_newLinks_15, .ref a6, .int m_pathMany, .int m_pathDelay, .ref a7, .ref a8, .int m_seenMany, .ref a9, .ref a10, .ref a11])), (a1, .inl (cI, 622, .inl m_now)), (a3, .inl (cZ, 2, .inl m_isKept)), (a5, .inl (cI, 120, .inl m_text)), (a6, .inl (cI, 36, .inl m_newDelay_16))]) hx hb hown hk w 0 rfl (Nat.le_of_ble_eq_true rfl) rfl dX12_net_108 (fun H locs w => ?_)
      refine lv_aload_n hx hb dX12_net_111 rfl (lv_at hl 0 rfl) ?_
      refine lv_aload_n hx hb dX12_net_112 rfl (lv_at hl 0 rfl) ?_
      refine gf_X12_91 hx hb hown hk w.1 0 rfl rfl dX12_net_113 ?_
      refine pf_X12_7 (ws' := [(a0, .inr (12, [.int m_newNodes_9, .int m_every, .int m_halves, .int m_age, .int m_life, .int m_first, .ref a1, .int m_undoMany, .int m_undoAt, .ref a2, .ref a3, .ref a4, .int 0, .ref a5, .int m_readAt_6, .int m_tokenAt_7, .int m_token_8, .int m_newNodes_9, .int m_newEvery_10, .int m_newHalves_11, .int m_newAge_12, .int m_newLife_13, .int m_newFirst_14, .int m_newLinks_15, .ref a6, .int m_pathMany, .int m_pathDelay, .ref a7, .ref a8, .int m_seenMany, .ref a9, .ref a10, .ref a11])), (a1, .inl (cI, 622, .inl m_now)), (a3, .inl (cZ, 2, .inl m_isKept)), (a5, .inl (cI, 120, .inl m_text)), (a6, .inl (cI, 36, .inl m_newDelay_16))]) hx hb hown hk w 0 rfl (Nat.le_of_ble_eq_true rfl) rfl dX12_net_116 (fun H locs w => ?_)
      refine lv_aload_n hx hb dX12_net_119 rfl (lv_at hl 0 rfl) ?_
      refine lv_aload_n hx hb dX12_net_120 rfl (lv_at hl 0 rfl) ?_
      refine gf_X12_101 hx hb hown hk w.1 0 rfl rfl dX12_net_121 ?_
      refine pf_X12_120 (ws' := [(a0, .inr (12, [.int m_newNodes_9, .int m_newEvery_10, .int m_halves, .int m_age, .int m_life, .int m_first, .ref a1, .int m_undoMany, .int m_undoAt, .ref a2, .ref a3, .ref a4, .int 0, .ref a5, .int m_readAt_6, .int m_tokenAt_7, .int m_token_8, .int m_newNodes_9, .int m_newEvery_10, .int m_newHalves_11, .int m_newAge_12, .int m_newLife_13, .int m_newFirst_14, .int m_newLinks_15, .ref a6, .int m_pathMany, .int m_pathDelay, .ref a7, .ref a8, .int m_seenMany, .ref a9, .ref a10, .ref a11])), (a1, .inl (cI, 622, .inl m_now)), (a3, .inl (cZ, 2, .inl m_isKept)), (a5, .inl (cI, 120, .inl m_text)), (a6, .inl (cI, 36, .inl m_newDelay_16))]) hx hb hown hk w 0 rfl (Nat.le_of_ble_eq_true rfl) rfl dX12_net_124 (fun H locs w => ?_)
      refine lv_aload_n hx hb dX12_net_127 rfl (lv_at hl 0 rfl) ?_
      refine lv_aload_n hx hb dX12_net_128 rfl (lv_at hl 0 rfl) ?_
      refine gf_X12_104 hx hb hown hk w.1 0 rfl rfl dX12_net_129 ?_
      refine pf_X12_123 (ws' := [(a0, .inr (12, [.int m_newNodes_9, .int m_newEvery_10, .int m_newHalves_11, .int m_age, .int m_life, .int m_first, .ref a1, .int m_undoMany, .int m_undoAt, .ref a2, .ref a3, .ref a4, .int 0, .ref a5, .int m_readAt_6, .int m_tokenAt_7, .int m_token_8, .int m_newNodes_9, .int m_newEvery_10, .int m_newHalves_11, .int m_newAge_12, .int m_newLife_13, .int m_newFirst_14, .int m_newLinks_15, .ref a6, .int m_pathMany, .int m_pathDelay, .ref a7, .ref a8, .int m_seenMany, .ref a9, .ref a10, .ref a11])), (a1, .inl (cI, 622, .inl m_now)), (a3, .inl (cZ, 2, .inl m_isKept)), (a5, .inl (cI, 120, .inl m_text)), (a6, .inl (cI, 36, .inl m_newDelay_16))]) hx hb hown hk w 0 rfl (Nat.le_of_ble_eq_true rfl) rfl dX12_net_132 (fun H locs w => ?_)
      refine lv_aload_n hx hb dX12_net_135 rfl (lv_at hl 0 rfl) ?_
      refine lv_aload_n hx hb dX12_net_136 rfl (lv_at hl 0 rfl) ?_
      refine gf_X12_107 hx hb hown hk w.1 0 rfl rfl dX12_net_137 ?_
      refine pf_X12_13 (ws' := [(a0, .inr (12, [.int m_newNodes_9, .int m_newEvery_10, .int m_newHalves_11, .int m_newAge_12, .int m_life, .int m_first, .ref a1, .int m_undoMany, .int m_undoAt, .ref a2, .ref a3, .ref a4, .int 0, .ref a5, .int m_readAt_6, .int m_tokenAt_7, .int m_token_8, .int m_newNodes_9, .int m_newEvery_10, .int m_newHalves_11, .int m_newAge_12, .int m_newLife_13, .int m_newFirst_14, .int m_newLinks_15, .ref a6, .int m_pathMany, .int m_pathDelay, .ref a7, .ref a8, .int m_seenMany, .ref a9, .ref a10, .ref a11])), (a1, .inl (cI, 622, .inl m_now)), (a3, .inl (cZ, 2, .inl m_isKept)), (a5, .inl (cI, 120, .inl m_text)), (a6, .inl (cI, 36, .inl m_newDelay_16))]) hx hb hown hk w 0 rfl (Nat.le_of_ble_eq_true rfl) rfl dX12_net_140 (fun H locs w => ?_)
      refine lv_aload_n hx hb dX12_net_143 rfl (lv_at hl 0 rfl) ?_
      refine lv_aload_n hx hb dX12_net_144 rfl (lv_at hl 0 rfl) ?_
      refine gf_X12_110 hx hb hown hk w.1 0 rfl rfl dX12_net_145 ?_
      refine pf_X12_16 (ws' := [(a0, .inr (12, [.int m_newNodes_9, .int m_newEvery_10, .int m_newHalves_11, .int m_newAge_12, .int m_newLife_13, .int m_first, .ref a1, .int m_undoMany, .int m_undoAt, .ref a2, .ref a3, .ref a4, .int 0, .ref a5, .int m_readAt_6, .int m_tokenAt_7, .int m_token_8, .int m_newNodes_9, .int m_newEvery_10, .int m_newHalves_11, .int m_newAge_12, .int m_newLife_13, .int m_newFirst_14, .int m_newLinks_15, .ref a6, .int m_pathMany, .int m_pathDelay, .ref a7, .ref a8, .int m_seenMany, .ref a9, .ref a10, .ref a11])), (a1, .inl (cI, 622, .inl m_now)), (a3, .inl (cZ, 2, .inl m_isKept)), (a5, .inl (cI, 120, .inl m_text)), (a6, .inl (cI, 36, .inl m_newDelay_16))]) hx hb hown hk w 0 rfl (Nat.le_of_ble_eq_true rfl) rfl dX12_net_148 (fun H locs w => ?_)
      refine lv_aload_n hx hb dX12_net_151 rfl (lv_at hl 0 rfl) ?_
      refine lv_aload_n hx hb dX12_net_152 rfl (lv_at hl 0 rfl) ?_
      refine gf_X12_113 hx hb hown hk w.1 0 rfl rfl dX12_net_153 ?_
      refine pf_X12_126 (ws' := [(a0, .inr (12, [.int m_newNodes_9, .int m_newEvery_10, .int m_newHalves_11, .int m_newAge_12, .int m_newLife_13, .int m_newFirst_14, .ref a1, .int m_undoMany, .int m_undoAt, .ref a2, .ref a3, .ref a4, .int 0, .ref a5, .int m_readAt_6, .int m_tokenAt_7, .int m_token_8, .int m_newNodes_9, .int m_newEvery_10, .int m_newHalves_11, .int m_newAge_12, .int m_newLife_13, .int m_newFirst_14, .int m_newLinks_15, .ref a6, .int m_pathMany, .int m_pathDelay, .ref a7, .ref a8, .int m_seenMany, .ref a9, .ref a10, .ref a11])), (a1, .inl (cI, 622, .inl m_now)), (a3, .inl (cZ, 2, .inl m_isKept)), (a5, .inl (cI, 120, .inl m_text)), (a6, .inl (cI, 36, .inl m_newDelay_16))]) hx hb hown hk w 0 rfl (Nat.le_of_ble_eq_true rfl) rfl dX12_net_156 (fun H locs w => ?_)
      refine lv_aload_n hx hb dX12_net_159 rfl (lv_at hl 0 rfl) ?_
      refine gf_X12_19 hx hb hown hk w.1 0 rfl rfl dX12_net_160 ?_
      obtain ⟨r_17, e_17, h⟩ := sat_bind h
      refine cMS (rest := []) (wr := [(a0, .inr (12, [.int m_newNodes_9, .int m_newEvery_10, .int m_newHalves_11, .int m_newAge_12, .int m_newLife_13, .int m_newFirst_14, .ref a1, .int m_undoMany, .int m_undoAt, .ref a2, .ref a3, .ref a4, .int 0, .ref a5, .int m_readAt_6, .int m_tokenAt_7, .int m_token_8, .int m_newNodes_9, .int m_newEvery_10, .int m_newHalves_11, .int m_newAge_12, .int m_newLife_13, .int m_newFirst_14, .int m_newLinks_15, .ref a6, .int m_pathMany, .int m_pathDelay, .ref a7, .ref a8, .int m_seenMany, .ref a9, .ref a10, .ref a11])), (a3, .inl (cZ, 2, .inl m_isKept)), (a5, .inl (cI, 120, .inl m_text)), (a6, .inl (cI, 36, .inl m_newDelay_16))]) (ws' := [(a0, .inr (12, [.int m_newNodes_9, .int m_newEvery_10, .int m_newHalves_11, .int m_newAge_12, .int m_newLife_13, .int m_newFirst_14, .ref a1, .int m_undoMany, .int m_undoAt, .ref a2, .ref a3, .ref a4, .int 0, .ref a5, .int m_readAt_6, .int m_tokenAt_7, .int m_token_8, .int m_newNodes_9, .int m_newEvery_10, .int m_newHalves_11, .int m_newAge_12, .int m_newLife_13, .int m_newFirst_14, .int m_newLinks_15, .ref a6, .int m_pathMany, .int m_pathDelay, .ref a7, .ref a8, .int m_seenMany, .ref a9, .ref a10, .ref a11])), (a1, .inl (cI, 622, .inl r_17)), (a3, .inl (cZ, 2, .inl m_isKept)), (a5, .inl (cI, 120, .inl m_text)), (a6, .inl (cI, 36, .inl m_newDelay_16))]) hx hb hml hown hk w hA (k_X12_begins l D cI cZ cK N a1 m_now r_17 e_17) (me_X12_begins hk.2.1) (ms_X12_begins hk.2.1) (ml_X12_54 hk.2.1) ((pmn 5 [1, 0, 2, 3, 4] rfl rfl (by decide))) ((pmn 5 [1, 0, 2, 3, 4] rfl rfl (by decide))) hl.1 rfl rfl (Nat.le_of_ble_eq_true rfl) ⟨rfl, rfl, Nat.le_of_ble_eq_true rfl, Nat.le_of_ble_eq_true rfl, Nat.zero_le _, Nat.zero_le _⟩ dX12_net_163 (fun H locs w => ?_)
      refine W.eq (g2 := F0 m 166 ls []) rfl ?_
      refine lv_iconst (v := 0) hx hb dX12_net_166 (by decide) ?_
      refine lv_istore_n (lv' := [(2, .int 0), (0, .ref a0), (1, .int e1_5)]) hx hb dX12_net_167 rfl hl (by decide) rfl (fun ls hl => ?_)
      obtain ⟨T168, hT168, h⟩ := sat_reg h
      have E168 : ∀ (m_now_18 : ar) (H : Heap) (locs : List Loc) (ls : Array Slot), T168 m_now_18 → wd D A s.heap H locs [(a0, .inr (12, [.int m_newNodes_9, .int m_newEvery_10, .int m_newHalves_11, .int m_newAge_12, .int m_newLife_13, .int m_newFirst_14, .ref a1, .int m_undoMany, .int m_undoAt, .ref a2, .ref a3, .ref a4, .int 0, .ref a5, .int m_readAt_6, .int m_tokenAt_7, .int m_token_8, .int m_newNodes_9, .int m_newEvery_10, .int m_newHalves_11, .int m_newAge_12, .int m_newLife_13, .int m_newFirst_14, .int m_newLinks_15, .ref a6, .int m_pathMany, .int m_pathDelay, .ref a7, .ref a8, .int m_seenMany, .ref a9, .ref a10, .ref a11])), (a1, .inl (cI, 622, .inl m_now_18)), (a3, .inl (cZ, 2, .inl m_isKept)), (a5, .inl (cI, 120, .inl m_text)), (a6, .inl (cI, 36, .inl m_newDelay_16))] → lv_has ls 3 [(0, .ref a0), (1, .int e1_5)] → W p l e rm_X12_net s m args below meth c H locs 0 0 Q (F0 m 195 ls []) := by
        intro m_now_18 H locs ls h w hl
        have h := hT168 _ h
        refine lv_aload_n hx hb dX12_net_195 rfl (lv_at hl 0 rfl) ?_
        refine lv_iconst (v := 0) hx hb dX12_net_196 (by decide) ?_
        refine pf_X12_129 (ws' := [(a0, .inr (12, [.int m_newNodes_9, .int m_newEvery_10, .int m_newHalves_11, .int m_newAge_12, .int m_newLife_13, .int m_newFirst_14, .ref a1, .int 0, .int m_undoAt, .ref a2, .ref a3, .ref a4, .int 0, .ref a5, .int m_readAt_6, .int m_tokenAt_7, .int m_token_8, .int m_newNodes_9, .int m_newEvery_10, .int m_newHalves_11, .int m_newAge_12, .int m_newLife_13, .int m_newFirst_14, .int m_newLinks_15, .ref a6, .int m_pathMany, .int m_pathDelay, .ref a7, .ref a8, .int m_seenMany, .ref a9, .ref a10, .ref a11])), (a1, .inl (cI, 622, .inl m_now_18)), (a3, .inl (cZ, 2, .inl m_isKept)), (a5, .inl (cI, 120, .inl m_text)), (a6, .inl (cI, 36, .inl m_newDelay_16))]) hx hb hown hk w 0 rfl (Nat.le_of_ble_eq_true rfl) rfl dX12_net_197 (fun H locs w => ?_)
        refine lv_aload_n hx hb dX12_net_200 rfl (lv_at hl 0 rfl) ?_
        refine lv_iconst (v := 0) hx hb dX12_net_201 (by decide) ?_
        refine pf_X12_132 (ws' := [(a0, .inr (12, [.int m_newNodes_9, .int m_newEvery_10, .int m_newHalves_11, .int m_newAge_12, .int m_newLife_13, .int m_newFirst_14, .ref a1, .int 0, .int m_undoAt, .ref a2, .ref a3, .ref a4, .int 0, .ref a5, .int m_readAt_6, .int m_tokenAt_7, .int m_token_8, .int m_newNodes_9, .int m_newEvery_10, .int m_newHalves_11, .int m_newAge_12, .int m_newLife_13, .int m_newFirst_14, .int m_newLinks_15, .ref a6, .int m_pathMany, .int m_pathDelay, .ref a7, .ref a8, .int 0, .ref a9, .ref a10, .ref a11])), (a1, .inl (cI, 622, .inl m_now_18)), (a3, .inl (cZ, 2, .inl m_isKept)), (a5, .inl (cI, 120, .inl m_text)), (a6, .inl (cI, 36, .inl m_newDelay_16))]) hx hb hown hk w 0 rfl (Nat.le_of_ble_eq_true rfl) rfl dX12_net_202 (fun H locs w => ?_)
        refine lv_aload_n hx hb dX12_net_205 rfl (lv_at hl 0 rfl) ?_
        refine gf_X12_26 hx hb hown hk w.1 0 rfl rfl dX12_net_206 ?_
        refine lv_iconst (v := 0) hx hb dX12_net_209 (by decide) ?_
        refine lv_iconst (v := 0) hx hb dX12_net_210 (by decide) ?_
        obtain ⟨hi, h⟩ := sat_in h
        refine ra_zst (ws' := [(a0, .inr (12, [.int m_newNodes_9, .int m_newEvery_10, .int m_newHalves_11, .int m_newAge_12, .int m_newLife_13, .int m_newFirst_14, .ref a1, .int 0, .int m_undoAt, .ref a2, .ref a3, .ref a4, .int 0, .ref a5, .int m_readAt_6, .int m_tokenAt_7, .int m_token_8, .int m_newNodes_9, .int m_newEvery_10, .int m_newHalves_11, .int m_newAge_12, .int m_newLife_13, .int m_newFirst_14, .int m_newLinks_15, .ref a6, .int m_pathMany, .int m_pathDelay, .ref a7, .ref a8, .int 0, .ref a9, .ref a10, .ref a11])), (a1, .inl (cI, 622, .inl m_now_18)), (a3, .inl (cZ, 2, .inl (upd m_isKept (0 : Int32).toNatClampNeg 0))), (a5, .inl (cI, 120, .inl m_text)), (a6, .inl (cI, 36, .inl m_newDelay_16))]) hx hb hk w 2 rfl hi (by decide) rfl dX12_net_211 (fun H locs w => ?_)
        refine lv_aload_n hx hb dX12_net_212 rfl (lv_at hl 0 rfl) ?_
        refine gf_X12_26 hx hb hown hk w.1 0 rfl rfl dX12_net_213 ?_
        refine lv_iconst (v := 1) hx hb dX12_net_216 (by decide) ?_
        refine lv_iconst (v := 0) hx hb dX12_net_217 (by decide) ?_
        obtain ⟨hi, h⟩ := sat_in h
        refine ra_zst (ws' := [(a0, .inr (12, [.int m_newNodes_9, .int m_newEvery_10, .int m_newHalves_11, .int m_newAge_12, .int m_newLife_13, .int m_newFirst_14, .ref a1, .int 0, .int m_undoAt, .ref a2, .ref a3, .ref a4, .int 0, .ref a5, .int m_readAt_6, .int m_tokenAt_7, .int m_token_8, .int m_newNodes_9, .int m_newEvery_10, .int m_newHalves_11, .int m_newAge_12, .int m_newLife_13, .int m_newFirst_14, .int m_newLinks_15, .ref a6, .int m_pathMany, .int m_pathDelay, .ref a7, .ref a8, .int 0, .ref a9, .ref a10, .ref a11])), (a1, .inl (cI, 622, .inl m_now_18)), (a3, .inl (cZ, 2, .inl (upd (upd m_isKept (0 : Int32).toNatClampNeg 0) (1 : Int32).toNatClampNeg 0))), (a5, .inl (cI, 120, .inl m_text)), (a6, .inl (cI, 36, .inl m_newDelay_16))]) hx hb hk w 2 rfl hi (by decide) rfl dX12_net_218 (fun H locs w => ?_)
        refine lv_iload_n hx hb dX12_net_219 rfl (lv_at hl 1 rfl) ?_
        have hR := hC0 _ (sat_some h)
        subst hR
        exact hret _ _ _ _ w dX12_net_220
      have L168 : ∀ (n : Nat) (x2_168 : Int32) (m_now_168 : ar) (H : Heap) (locs : List Loc) (ls : Array Slot), sat (f_X12_net_L168 m_newDelay_16 n x2_168 m_now_168) T168 → wd D A s.heap H locs [(a0, .inr (12, [.int m_newNodes_9, .int m_newEvery_10, .int m_newHalves_11, .int m_newAge_12, .int m_newLife_13, .int m_newFirst_14, .ref a1, .int m_undoMany, .int m_undoAt, .ref a2, .ref a3, .ref a4, .int 0, .ref a5, .int m_readAt_6, .int m_tokenAt_7, .int m_token_8, .int m_newNodes_9, .int m_newEvery_10, .int m_newHalves_11, .int m_newAge_12, .int m_newLife_13, .int m_newFirst_14, .int m_newLinks_15, .ref a6, .int m_pathMany, .int m_pathDelay, .ref a7, .ref a8, .int m_seenMany, .ref a9, .ref a10, .ref a11])), (a1, .inl (cI, 622, .inl m_now_168)), (a3, .inl (cZ, 2, .inl m_isKept)), (a5, .inl (cI, 120, .inl m_text)), (a6, .inl (cI, 36, .inl m_newDelay_16))] → lv_has ls 3 [(0, .ref a0), (1, .int e1_5), (2, .int x2_168)] → W p l e rm_X12_net s m args below meth c H locs 0 0 Q (F0 m 168 ls []) := by
        intro n
        induction n with
        | zero =>
          intro x2_168 m_now_168 H locs ls h
          rw [f_X12_net_L168] at h
          exact (sat_none h).elim
        | succ n ih =>
          intro x2_168 m_now_168 H locs ls h w hl
          rw [f_X12_net_L168] at h
          refine lv_iload_n hx hb dX12_net_168 rfl (lv_at hl 2 rfl) ?_
          refine lv_bipush (v := 36) hx hb dX12_net_169 (by decide) ?_
          refine lv_icmp_ge (tgt := 195) hx hb dX12_net_171 (by decide) (fun c171 => ?_) (fun c171 => ?_)
          · have h := sat_t c171 h
            exact E168 m_now_168 _ _ _ (sat_some h) w (lv_sub hl [0, 1] rfl)
          · have h := sat_f c171 h
            refine lv_aload_n hx hb dX12_net_174 rfl (lv_at hl 0 rfl) ?_
            refine gf_X12_19 hx hb hown hk w.1 0 rfl rfl dX12_net_175 ?_
            refine lv_bipush (v := 118) hx hb dX12_net_178 (by decide) ?_
            refine lv_iload_n hx hb dX12_net_180 rfl (lv_at hl 2 rfl) ?_
            refine lv_iadd hx hb dX12_net_181 ?_
            refine lv_aload_n hx hb dX12_net_182 rfl (lv_at hl 0 rfl) ?_
            refine gf_X12_36 hx hb hown hk w.1 0 rfl rfl dX12_net_183 ?_
            refine lv_iload_n hx hb dX12_net_186 rfl (lv_at hl 2 rfl) ?_
            obtain ⟨hi, h⟩ := sat_in h
            refine va_iald hx hb hk.1 w.1 4 0 rfl rfl hi dX12_net_187 ?_
            obtain ⟨hi, h⟩ := sat_in h
            refine ra_ist (ws' := [(a0, .inr (12, [.int m_newNodes_9, .int m_newEvery_10, .int m_newHalves_11, .int m_newAge_12, .int m_newLife_13, .int m_newFirst_14, .ref a1, .int m_undoMany, .int m_undoAt, .ref a2, .ref a3, .ref a4, .int 0, .ref a5, .int m_readAt_6, .int m_tokenAt_7, .int m_token_8, .int m_newNodes_9, .int m_newEvery_10, .int m_newHalves_11, .int m_newAge_12, .int m_newLife_13, .int m_newFirst_14, .int m_newLinks_15, .ref a6, .int m_pathMany, .int m_pathDelay, .ref a7, .ref a8, .int m_seenMany, .ref a9, .ref a10, .ref a11])), (a1, .inl (cI, 622, .inl (upd m_now_168 (118 + x2_168).toNatClampNeg (m_newDelay_16 x2_168.toNatClampNeg)))), (a3, .inl (cZ, 2, .inl m_isKept)), (a5, .inl (cI, 120, .inl m_text)), (a6, .inl (cI, 36, .inl m_newDelay_16))]) hx hb hk w 1 rfl hi rfl dX12_net_188 (fun H locs w => ?_)
            refine lv_iinc (v := x2_168 + 1) (lv' := [(2, .int (x2_168 + 1)), (0, .ref a0), (1, .int e1_5)]) hx hb dX12_net_189 hl (k := 2) rfl (congrArg (fun z => x2_168 + z) (by decide)) (by decide) rfl (fun ls hl => ?_)
            refine lv_goto (tgt := 168) hx hb dX12_net_192 (by decide) ?_
            exact ih (x2_168 + 1) (upd m_now_168 (118 + x2_168).toNatClampNeg (m_newDelay_16 x2_168.toNatClampNeg)) _ _ _ h w (lv_sub hl [1, 2, 0] rfl)
      exact L168 N 0 r_17 _ _ _ h w (lv_sub hl [1, 2, 0] rfl)
    have L69 : ∀ (n : Nat) (x1_69 : Int32) (m_readAt_69 : Int32) (m_tokenAt_69 : Int32) (m_token_69 : Int32) (m_newNodes_69 : Int32) (m_newEvery_69 : Int32) (m_newHalves_69 : Int32) (m_newAge_69 : Int32) (m_newLife_69 : Int32) (m_newFirst_69 : Int32) (m_newLinks_69 : Int32) (m_newDelay_69 : ar) (H : Heap) (locs : List Loc) (ls : Array Slot), sat (f_X12_net_L69 m_nodes m_every m_halves m_age m_life m_first m_now m_undoMany m_isKept m_letterMany m_text m_seenMany N n x1_69 m_readAt_69 m_tokenAt_69 m_token_69 m_newNodes_69 m_newEvery_69 m_newHalves_69 m_newAge_69 m_newLife_69 m_newFirst_69 m_newLinks_69 m_newDelay_69) T69 → wd D A s.heap H locs [(a0, .inr (12, [.int m_nodes, .int m_every, .int m_halves, .int m_age, .int m_life, .int m_first, .ref a1, .int m_undoMany, .int m_undoAt, .ref a2, .ref a3, .ref a4, .int m_letterMany, .ref a5, .int m_readAt_69, .int m_tokenAt_69, .int m_token_69, .int m_newNodes_69, .int m_newEvery_69, .int m_newHalves_69, .int m_newAge_69, .int m_newLife_69, .int m_newFirst_69, .int m_newLinks_69, .ref a6, .int m_pathMany, .int m_pathDelay, .ref a7, .ref a8, .int m_seenMany, .ref a9, .ref a10, .ref a11])), (a1, .inl (cI, 622, .inl m_now)), (a3, .inl (cZ, 2, .inl m_isKept)), (a5, .inl (cI, 120, .inl m_text)), (a6, .inl (cI, 36, .inl m_newDelay_69))] → lv_has ls 3 [(0, .ref a0), (1, .int x1_69)] → W p l e rm_X12_net s m args below meth c H locs 0 0 Q (F0 m 69 ls []) := by
      intro n
      induction n with
      | zero =>
        intro x1_69 m_readAt_69 m_tokenAt_69 m_token_69 m_newNodes_69 m_newEvery_69 m_newHalves_69 m_newAge_69 m_newLife_69 m_newFirst_69 m_newLinks_69 m_newDelay_69 H locs ls h
        rw [f_X12_net_L69] at h
        exact (sat_none h).elim
      | succ n ih =>
        intro x1_69 m_readAt_69 m_tokenAt_69 m_token_69 m_newNodes_69 m_newEvery_69 m_newHalves_69 m_newAge_69 m_newLife_69 m_newFirst_69 m_newLinks_69 m_newDelay_69 H locs ls h w hl
        rw [f_X12_net_L69] at h
        refine lv_aload_n hx hb dX12_net_69 rfl (lv_at hl 0 rfl) ?_
        refine gf_X12_69 hx hb hown hk w.1 0 rfl rfl dX12_net_70 ?_
        refine lv_aload_n hx hb dX12_net_73 rfl (lv_at hl 0 rfl) ?_
        refine gf_X12_66 hx hb hown hk w.1 0 rfl rfl dX12_net_74 ?_
        refine lv_icmp_ge (tgt := 106) hx hb dX12_net_77 (by decide) (fun c77 => ?_) (fun c77 => ?_)
        · have h := sat_t c77 h
          exact E69 x1_69 m_readAt_69 m_tokenAt_69 m_token_69 m_newNodes_69 m_newEvery_69 m_newHalves_69 m_newAge_69 m_newLife_69 m_newFirst_69 m_newLinks_69 m_newDelay_69 _ _ _ (sat_some h) w (lv_sub hl [0, 1] rfl)
        · have h := sat_f c77 h
          refine lv_aload_n hx hb dX12_net_80 rfl (lv_at hl 0 rfl) ?_
          refine lv_iload_n hx hb dX12_net_81 rfl (lv_at hl 1 rfl) ?_
          obtain ⟨r_3, e_3, h⟩ := sat_bind h
          refine cMV (rest := []) (wr := [(a1, .inl (cI, 622, .inl m_now)), (a3, .inl (cZ, 2, .inl m_isKept))]) (ws' := [(a0, .inr (12, [.int m_nodes, .int m_every, .int m_halves, .int m_age, .int m_life, .int m_first, .ref a1, .int m_undoMany, .int m_undoAt, .ref a2, .ref a3, .ref a4, .int m_letterMany, .ref a5, .int r_3.2.1, .int r_3.2.2.1, .int r_3.2.2.2.1, .int r_3.2.2.2.2.1, .int r_3.2.2.2.2.2.1, .int r_3.2.2.2.2.2.2.1, .int r_3.2.2.2.2.2.2.2.1, .int r_3.2.2.2.2.2.2.2.2.1, .int r_3.2.2.2.2.2.2.2.2.2.1, .int r_3.2.2.2.2.2.2.2.2.2.2.1, .ref a6, .int m_pathMany, .int m_pathDelay, .ref a7, .ref a8, .int m_seenMany, .ref a9, .ref a10, .ref a11])), (a1, .inl (cI, 622, .inl m_now)), (a3, .inl (cZ, 2, .inl m_isKept)), (a5, .inl (cI, 120, .inl m_text)), (a6, .inl (cI, 36, .inl r_3.2.2.2.2.2.2.2.2.2.2.2))]) hx hb hml hown hk w hA (k_X12_readsItem l D cI cZ cK N a0 a1 a2 a3 a4 a5 a6 a7 a8 a9 a10 a11 m_nodes m_every m_halves m_age m_life m_first m_undoMany m_undoAt m_letterMany m_readAt_69 m_tokenAt_69 m_token_69 m_newNodes_69 m_newEvery_69 m_newHalves_69 m_newAge_69 m_newLife_69 m_newFirst_69 m_newLinks_69 m_pathMany m_pathDelay m_seenMany m_text m_newDelay_69 x1_69 r_3 e_3) (me_X12_readsItem hk.2.1) (mi_X12_readsItem hk.2.1) (ml_X12_116 hk.2.1) ((pmn 5 [0, 3, 4, 1, 2] rfl rfl (by decide))) ((pmn 5 [0, 3, 4, 1, 2] rfl rfl (by decide))) 0 rfl rfl rfl hl.1 rfl rfl (Nat.le_of_ble_eq_true rfl) ⟨rfl, rfl, Nat.le_of_ble_eq_true rfl, Nat.le_of_ble_eq_true rfl, Nat.zero_le _, Nat.zero_le _⟩ dX12_net_82 (fun H locs w => ?_)
          refine W.eq (g2 := F0 m 85 ls [.int (b2i r_3.1)]) rfl ?_
          refine lv_if_ne (tgt := 96) hx hb dX12_net_85 (by decide) (fun c85 => ?_) (fun c85 => ?_)
          · have h := sat_f c85 h
            refine lv_iinc (v := x1_69 + 1) (lv' := [(1, .int (x1_69 + 1)), (0, .ref a0)]) hx hb dX12_net_96 hl (k := 1) rfl (congrArg (fun z => x1_69 + z) (by decide)) (by decide) rfl (fun ls hl => ?_)
            refine lv_aload_n hx hb dX12_net_99 rfl (lv_at hl 1 rfl) ?_
            obtain ⟨r_4, e_4, h⟩ := sat_bind h
            refine cMV (rest := []) (wr := [(a1, .inl (cI, 622, .inl m_now)), (a3, .inl (cZ, 2, .inl m_isKept)), (a6, .inl (cI, 36, .inl r_3.2.2.2.2.2.2.2.2.2.2.2))]) (ws' := [(a0, .inr (12, [.int m_nodes, .int m_every, .int m_halves, .int m_age, .int m_life, .int m_first, .ref a1, .int m_undoMany, .int m_undoAt, .ref a2, .ref a3, .ref a4, .int m_letterMany, .ref a5, .int r_4, .int r_3.2.2.1, .int r_3.2.2.2.1, .int r_3.2.2.2.2.1, .int r_3.2.2.2.2.2.1, .int r_3.2.2.2.2.2.2.1, .int r_3.2.2.2.2.2.2.2.1, .int r_3.2.2.2.2.2.2.2.2.1, .int r_3.2.2.2.2.2.2.2.2.2.1, .int r_3.2.2.2.2.2.2.2.2.2.2.1, .ref a6, .int m_pathMany, .int m_pathDelay, .ref a7, .ref a8, .int m_seenMany, .ref a9, .ref a10, .ref a11])), (a1, .inl (cI, 622, .inl m_now)), (a3, .inl (cZ, 2, .inl m_isKept)), (a5, .inl (cI, 120, .inl m_text)), (a6, .inl (cI, 36, .inl r_3.2.2.2.2.2.2.2.2.2.2.2))]) hx hb hml hown hk w hA (k_X12_blanks l D cI cZ cK N a0 a1 a2 a3 a4 a5 a6 a7 a8 a9 a10 a11 m_nodes m_every m_halves m_age m_life m_first m_undoMany m_undoAt m_letterMany r_3.2.1 r_3.2.2.1 r_3.2.2.2.1 r_3.2.2.2.2.1 r_3.2.2.2.2.2.1 r_3.2.2.2.2.2.2.1 r_3.2.2.2.2.2.2.2.1 r_3.2.2.2.2.2.2.2.2.1 r_3.2.2.2.2.2.2.2.2.2.1 r_3.2.2.2.2.2.2.2.2.2.2.1 m_pathMany m_pathDelay m_seenMany m_text r_4 e_4) (me_X12_blanks hk.2.1) (mi_X12_blanks hk.2.1) (ml_X12_72 hk.2.1) ((pmn 5 [0, 3, 1, 2, 4] rfl rfl (by decide))) ((pmn 5 [0, 2, 3, 1, 4] rfl rfl (by decide))) 0 rfl rfl rfl hl.1 rfl rfl (Nat.le_of_ble_eq_true rfl) ⟨rfl, rfl, Nat.le_of_ble_eq_true rfl, Nat.le_of_ble_eq_true rfl, Nat.zero_le _, Nat.zero_le _⟩ dX12_net_100 (fun H locs w => ?_)
            refine W.eq (g2 := F0 m 103 ls []) rfl ?_
            refine lv_goto (tgt := 69) hx hb dX12_net_103 (by decide) ?_
            exact ih (x1_69 + 1) r_4 r_3.2.2.1 r_3.2.2.2.1 r_3.2.2.2.2.1 r_3.2.2.2.2.2.1 r_3.2.2.2.2.2.2.1 r_3.2.2.2.2.2.2.2.1 r_3.2.2.2.2.2.2.2.2.1 r_3.2.2.2.2.2.2.2.2.2.1 r_3.2.2.2.2.2.2.2.2.2.2.1 r_3.2.2.2.2.2.2.2.2.2.2.2 _ _ _ h w (lv_sub hl [1, 0] rfl)
          · have h := sat_t c85 h
            refine lv_bipush (v := (-10)) hx hb dX12_net_88 (by decide) ?_
            refine lv_aload_n hx hb dX12_net_90 rfl (lv_at hl 0 rfl) ?_
            refine gf_X12_75 hx hb hown hk w.1 0 rfl rfl dX12_net_91 ?_
            refine lv_isub hx hb dX12_net_94 ?_
            have hR := hC0 _ (hr69 _ (sat_some h))
            subst hR
            exact hret _ _ _ _ w dX12_net_95
    exact L69 N 0 r_2 m_tokenAt m_token 2 0 0 99 60 0 0 m_newDelay_1 _ _ _ h w (lv_sub hl [1, 0] rfl)
  have L39 : ∀ (n : Nat) (x1_39 : Int32) (m_newDelay_39 : ar) (H : Heap) (locs : List Loc) (ls : Array Slot), sat (f_X12_net_L39 n x1_39 m_newDelay_39) T39 → wd D A s.heap H locs [(a0, .inr (12, [.int m_nodes, .int m_every, .int m_halves, .int m_age, .int m_life, .int m_first, .ref a1, .int m_undoMany, .int m_undoAt, .ref a2, .ref a3, .ref a4, .int m_letterMany, .ref a5, .int m_readAt, .int m_tokenAt, .int m_token, .int 2, .int 0, .int 0, .int 99, .int 60, .int 0, .int 0, .ref a6, .int m_pathMany, .int m_pathDelay, .ref a7, .ref a8, .int m_seenMany, .ref a9, .ref a10, .ref a11])), (a1, .inl (cI, 622, .inl m_now)), (a3, .inl (cZ, 2, .inl m_isKept)), (a5, .inl (cI, 120, .inl m_text)), (a6, .inl (cI, 36, .inl m_newDelay_39))] → lv_has ls 3 [(0, .ref a0), (1, .int x1_39)] → W p l e rm_X12_net s m args below meth c H locs 0 0 Q (F0 m 39 ls []) := by
    intro n
    induction n with
    | zero =>
      intro x1_39 m_newDelay_39 H locs ls h
      rw [f_X12_net_L39] at h
      exact (sat_none h).elim
    | succ n ih =>
      intro x1_39 m_newDelay_39 H locs ls h w hl
      rw [f_X12_net_L39] at h
      refine lv_iload_n hx hb dX12_net_39 rfl (lv_at hl 1 rfl) ?_
      refine lv_bipush (v := 36) hx hb dX12_net_40 (by decide) ?_
      refine lv_icmp_ge (tgt := 58) hx hb dX12_net_42 (by decide) (fun c42 => ?_) (fun c42 => ?_)
      · have h := sat_t c42 h
        exact E39 m_newDelay_39 _ _ _ (sat_some h) w (lv_sub hl [0] rfl)
      · have h := sat_f c42 h
        refine lv_aload_n hx hb dX12_net_45 rfl (lv_at hl 0 rfl) ?_
        refine gf_X12_36 hx hb hown hk w.1 0 rfl rfl dX12_net_46 ?_
        refine lv_iload_n hx hb dX12_net_49 rfl (lv_at hl 1 rfl) ?_
        refine lv_iconst (v := 0) hx hb dX12_net_50 (by decide) ?_
        obtain ⟨hi, h⟩ := sat_in h
        refine ra_ist (ws' := [(a0, .inr (12, [.int m_nodes, .int m_every, .int m_halves, .int m_age, .int m_life, .int m_first, .ref a1, .int m_undoMany, .int m_undoAt, .ref a2, .ref a3, .ref a4, .int m_letterMany, .ref a5, .int m_readAt, .int m_tokenAt, .int m_token, .int 2, .int 0, .int 0, .int 99, .int 60, .int 0, .int 0, .ref a6, .int m_pathMany, .int m_pathDelay, .ref a7, .ref a8, .int m_seenMany, .ref a9, .ref a10, .ref a11])), (a1, .inl (cI, 622, .inl m_now)), (a3, .inl (cZ, 2, .inl m_isKept)), (a5, .inl (cI, 120, .inl m_text)), (a6, .inl (cI, 36, .inl (upd m_newDelay_39 x1_39.toNatClampNeg 0)))]) hx hb hk w 4 rfl hi rfl dX12_net_51 (fun H locs w => ?_)
        refine lv_iinc (v := x1_39 + 1) (lv' := [(1, .int (x1_39 + 1)), (0, .ref a0)]) hx hb dX12_net_52 hl (k := 1) rfl (congrArg (fun z => x1_39 + z) (by decide)) (by decide) rfl (fun ls hl => ?_)
        refine lv_goto (tgt := 39) hx hb dX12_net_55 (by decide) ?_
        exact ih (x1_39 + 1) (upd m_newDelay_39 x1_39.toNatClampNeg 0) _ _ _ h w (lv_sub hl [1, 0] rfl)
  exact L39 N 0 m_newDelay _ _ _ h w (lv_sub hl [1, 0] rfl)
def f_X12_link (N : Nat) (m_now : ar) (x1 : Int32) (x2 : Int32) : Option (Int32) := Option.bind (f_X12_pairOf N m_now x1) fun r_1 => if r_1 = (-9) then some (-1) else Option.bind (f_X12_in x2 0 2) fun r_2 => if (b2i r_2) = 0 then some (-1) else if x2 = 0 then some (r_1 / 6) else if x2 = 1 then some (r_1 - r_1 / 6 * 6) else ck (inb (118 + r_1) 622) (some (m_now (118 + r_1).toNatClampNeg))
abbrev rm_X12_link : Room := { frames := 1, cells := 0, slots := 0, locals := 23 }
set_option maxRecDepth 100000 in
set_option maxHeartbeats 4000000 in
theorem k_X12_link (l : Launch) (D : va_G) (cI cZ cK : ClassId) (N : Nat) (a0 a1 a2 a3 a4 a5 a6 a7 a8 a9 a10 a11 : Nat) (m_nodes : Int32) (m_every : Int32) (m_halves : Int32) (m_age : Int32) (m_life : Int32) (m_first : Int32) (m_undoMany : Int32) (m_undoAt : Int32) (m_letterMany : Int32) (m_readAt : Int32) (m_tokenAt : Int32) (m_token : Int32) (m_newNodes : Int32) (m_newEvery : Int32) (m_newHalves : Int32) (m_newAge : Int32) (m_newLife : Int32) (m_newFirst : Int32) (m_newLinks : Int32) (m_pathMany : Int32) (m_pathDelay : Int32) (m_seenMany : Int32) (m_now : ar) (x1 : Int32) (x2 : Int32) (R : Int32) (h : f_X12_link N m_now x1 x2 = some R) : Rd l D cI cZ cK yX12_link cX12_link 4 (some .int) rm_X12_link [.ref a0, .int x1, .int x2] [(a0, .inr (12, [.int m_nodes, .int m_every, .int m_halves, .int m_age, .int m_life, .int m_first, .ref a1, .int m_undoMany, .int m_undoAt, .ref a2, .ref a3, .ref a4, .int m_letterMany, .ref a5, .int m_readAt, .int m_tokenAt, .int m_token, .int m_newNodes, .int m_newEvery, .int m_newHalves, .int m_newAge, .int m_newLife, .int m_newFirst, .int m_newLinks, .ref a6, .int m_pathMany, .int m_pathDelay, .ref a7, .ref a8, .int m_seenMany, .ref a9, .ref a10, .ref a11])), (a1, .inl (cI, 622, .inl m_now))] R := by
  refine rd_of (by decide) (vp_nar_int _) (Nat.le_of_ble_eq_true rfl) ?_
  intro p e s m args below meth c Q ls hx hb hml hown hk hP hret hl
  have hl : lv_has ls 4 [(0, .ref a0), (1, .int x1), (2, .int x2)] := hl
  obtain ⟨C0, hC0, h⟩ := sat_top h
  unfold f_X12_link at h
  refine lv_aload_n hx hb dX12_link_0 rfl (lv_at hl 0 rfl) ?_
  refine lv_iload_n hx hb dX12_link_1 rfl (lv_at hl 1 rfl) ?_
  obtain ⟨r_1, e_1, h⟩ := sat_bind h
  refine cRV (rest := []) hx hb hml hown hk (k_X12_pairOf l D cI cZ cK N a0 a1 a2 a3 a4 a5 a6 a7 a8 a9 a10 a11 m_nodes m_every m_halves m_age m_life m_first m_undoMany m_undoAt m_letterMany m_readAt m_tokenAt m_token m_newNodes m_newEvery m_newHalves m_newAge m_newLife m_newFirst m_newLinks m_pathMany m_pathDelay m_seenMany m_now x1 r_1 e_1) (me_X12_pairOf hk.2.1) (mi_X12_pairOf hk.2.1) (ml_X12_135 hk.2.1) (hP.sub [0, 1] rfl) 0 rfl rfl rfl hl.1 rfl rfl (Nat.le_of_ble_eq_true rfl) ⟨rfl, rfl, Nat.le_of_ble_eq_true rfl, Nat.le_of_ble_eq_true rfl, Nat.zero_le _, Nat.zero_le _⟩ dX12_link_2 ?_
  refine lv_istore_n (lv' := [(3, .int r_1), (0, .ref a0), (1, .int x1), (2, .int x2)]) hx hb dX12_link_5 rfl hl (by decide) rfl (fun ls hl => ?_)
  refine lv_iload_n hx hb dX12_link_6 rfl (lv_at hl 0 rfl) ?_
  refine lv_bipush (v := (-9)) hx hb dX12_link_7 (by decide) ?_
  refine lv_icmp_eq (tgt := 21) hx hb dX12_link_9 (by decide) (fun c9 => ?_) (fun c9 => ?_)
  · have h := sat_t c9 h
    refine lv_iconst (v := (-1)) hx hb dX12_link_21 (by decide) ?_
    have hR := hC0 _ (sat_some h)
    subst hR
    exact hret _ _ dX12_link_22
  · have h := sat_f c9 h
    refine lv_iload_n hx hb dX12_link_12 rfl (lv_at hl 3 rfl) ?_
    refine lv_iconst (v := 0) hx hb dX12_link_13 (by decide) ?_
    refine lv_iconst (v := 2) hx hb dX12_link_14 (by decide) ?_
    obtain ⟨r_2, e_2, h⟩ := sat_bind h
    refine cRS (rest := []) hx hb hml hown hk (k_X12_in l D cI cZ cK x2 0 2 r_2 e_2) (me_X12_in hk.2.1) (ms_X12_in hk.2.1) (ml_X12_58 hk.2.1) (hP.sub [] rfl) hl.1 rfl rfl (Nat.le_of_ble_eq_true rfl) ⟨rfl, rfl, Nat.le_of_ble_eq_true rfl, Nat.le_of_ble_eq_true rfl, Nat.zero_le _, Nat.zero_le _⟩ dX12_link_15 ?_
    refine lv_if_ne (tgt := 23) hx hb dX12_link_18 (by decide) (fun c18 => ?_) (fun c18 => ?_)
    · have h := sat_f c18 h
      refine lv_iload_n hx hb dX12_link_23 rfl (lv_at hl 3 rfl) ?_
      refine lv_if_ne (tgt := 34) hx hb dX12_link_24 (by decide) (fun c24 => ?_) (fun c24 => ?_)
      · have h := sat_f c24 h
        refine lv_iload_n hx hb dX12_link_34 rfl (lv_at hl 3 rfl) ?_
        refine lv_iconst (v := 1) hx hb dX12_link_35 (by decide) ?_
        refine lv_icmp_ne (tgt := 46) hx hb dX12_link_36 (by decide) (fun c36 => ?_) (fun c36 => ?_)
        · have h := sat_f c36 h
          refine lv_aload_n hx hb dX12_link_46 rfl (lv_at hl 1 rfl) ?_
          refine gf_X12_19 hx hb hown hk hP 0 rfl rfl dX12_link_47 ?_
          refine lv_bipush (v := 118) hx hb dX12_link_50 (by decide) ?_
          refine lv_iload_n hx hb dX12_link_52 rfl (lv_at hl 0 rfl) ?_
          refine lv_iadd hx hb dX12_link_53 ?_
          obtain ⟨hi, h⟩ := sat_in h
          refine va_iald hx hb hk.1 hP 1 0 rfl rfl hi dX12_link_54 ?_
          have hR := hC0 _ (sat_some h)
          subst hR
          exact hret _ _ dX12_link_55
        · have h := sat_t c36 h
          refine lv_iload_n hx hb dX12_link_39 rfl (lv_at hl 0 rfl) ?_
          refine lv_bipush (v := 6) hx hb dX12_link_40 (by decide) ?_
          refine lv_irem hx hb dX12_link_42 (by decide) ?_
          refine lv_goto (tgt := 55) hx hb dX12_link_43 (by decide) ?_
          have hR := hC0 _ (sat_some h)
          subst hR
          exact hret _ _ dX12_link_55
      · have h := sat_t c24 h
        refine lv_iload_n hx hb dX12_link_27 rfl (lv_at hl 0 rfl) ?_
        refine lv_bipush (v := 6) hx hb dX12_link_28 (by decide) ?_
        refine lv_idiv hx hb dX12_link_30 (by decide) ?_
        refine lv_goto (tgt := 55) hx hb dX12_link_31 (by decide) ?_
        have hR := hC0 _ (sat_some h)
        subst hR
        exact hret _ _ dX12_link_55
    · have h := sat_t c18 h
      refine lv_iconst (v := (-1)) hx hb dX12_link_21 (by decide) ?_
      have hR := hC0 _ (sat_some h)
      subst hR
      exact hret _ _ dX12_link_22
