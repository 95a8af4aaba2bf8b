def f_X11_pairCell (x0 : Int32) (x1 : Int32) : Option (Int32) := some ((x0 * 6) + x1)
abbrev rm_X11_pairCell : Room := { frames := 0, cells := 0, slots := 0, locals := 0 }
set_option maxRecDepth 100000 in
set_option maxHeartbeats 4000000 in
theorem k_X11_pairCell (l : Launch) (D : va_G) (cI cZ cK : ClassId) (x0 : Int32) (x1 : Int32) (R : Int32) (h : f_X11_pairCell x0 x1 = some R) : Rd l D cI cZ cK yX11_pairCell cX11_pairCell 2 (some .int) rm_X11_pairCell [.int x0, .int x1] [] R := by
  refine rd_of (by decide) (vp_nar_int _) (Nat.le_of_ble_eq_true rfl) ?_
  intro p e s m args below meth c Q ls hx hb hml hown hk hP hret hl
  have hl : lv_has ls 2 [(0, .int x0), (1, .int x1)] := hl
  obtain ⟨C0, hC0, h⟩ := sat_top h
  unfold f_X11_pairCell at h
  refine lv_iload_n hx hb dX11_pairCell_0 rfl (lv_at hl 0 rfl) ?_
  refine lv_bipush (v := 6) hx hb dX11_pairCell_1 (by decide) ?_
  refine lv_imul hx hb dX11_pairCell_3 ?_
  refine lv_iload_n hx hb dX11_pairCell_4 rfl (lv_at hl 1 rfl) ?_
  refine lv_iadd hx hb dX11_pairCell_5 ?_
  have hR := hC0 _ (sat_some h)
  subst hR
  exact hret _ _ dX11_pairCell_6
def f_X11_guessCell (x0 : Int32) (x1 : Int32) (x2 : Int32) : Option (Int32) := some ((((x0 * 6) + x1) * 6) + x2)
abbrev rm_X11_guessCell : Room := { frames := 0, cells := 0, slots := 0, locals := 0 }
set_option maxRecDepth 100000 in
set_option maxHeartbeats 4000000 in
theorem k_X11_guessCell (l : Launch) (D : va_G) (cI cZ cK : ClassId) (x0 : Int32) (x1 : Int32) (x2 : Int32) (R : Int32) (h : f_X11_guessCell x0 x1 x2 = some R) : Rd l D cI cZ cK yX11_guessCell cX11_guessCell 3 (some .int) rm_X11_guessCell [.int x0, .int x1, .int x2] [] R := by
  refine rd_of (by decide) (vp_nar_int _) (Nat.le_of_ble_eq_true rfl) ?_
  intro p e s m args below meth c Q ls hx hb hml hown hk hP hret hl
  have hl : lv_has ls 3 [(0, .int x0), (1, .int x1), (2, .int x2)] := hl
  obtain ⟨C0, hC0, h⟩ := sat_top h
  unfold f_X11_guessCell at h
  refine lv_iload_n hx hb dX11_guessCell_0 rfl (lv_at hl 0 rfl) ?_
  refine lv_bipush (v := 6) hx hb dX11_guessCell_1 (by decide) ?_
  refine lv_imul hx hb dX11_guessCell_3 ?_
  refine lv_iload_n hx hb dX11_guessCell_4 rfl (lv_at hl 1 rfl) ?_
  refine lv_iadd hx hb dX11_guessCell_5 ?_
  refine lv_bipush (v := 6) hx hb dX11_guessCell_6 (by decide) ?_
  refine lv_imul hx hb dX11_guessCell_8 ?_
  refine lv_iload_n hx hb dX11_guessCell_9 rfl (lv_at hl 2 rfl) ?_
  refine lv_iadd hx hb dX11_guessCell_10 ?_
  have hR := hC0 _ (sat_some h)
  subst hR
  exact hret _ _ dX11_guessCell_11
def f_X3_delayOf (dl : ar) (x1 : Int32) (x2 : Int32) : Option (Int32) := Option.bind (f_X11_pairCell x1 x2) fun r_1 => ck (inb r_1 36) (some (dl r_1.toNatClampNeg))
abbrev rm_X3_delayOf : Room := { frames := 1, cells := 0, slots := 0, locals := 21 }
set_option maxRecDepth 100000 in
set_option maxHeartbeats 4000000 in
theorem k_X3_delayOf (l : Launch) (D : va_G) (cI cZ cK : ClassId) (a0 a1 : Nat) (lt : Int32) (dl : ar) (x1 : Int32) (x2 : Int32) (R : Int32) (h : f_X3_delayOf dl x1 x2 = some R) : Rd l D cI cZ cK yX3_delayOf cX3_delayOf 3 (some .int) rm_X3_delayOf [.ref a0, .int x1, .int x2] [(a0, .inr (3, [.ref a1, .int lt])), (a1, .inl (cI, 36, .inl dl))] R := by
  refine rd_of (by decide) (vp_nar_int _) (Nat.le_of_ble_eq_true rfl) ?_
  intro p e s m args below meth c Q ls hx hb hml hown hk hP hret hl
  have hl : lv_has ls 3 [(0, .ref a0), (1, .int x1), (2, .int x2)] := hl
  obtain ⟨C0, hC0, h⟩ := sat_top h
  unfold f_X3_delayOf at h
  refine lv_aload_n hx hb dX3_delayOf_0 rfl (lv_at hl 0 rfl) ?_
  refine gf_X3_9 hx hb hown hk hP 0 rfl rfl dX3_delayOf_1 ?_
  refine lv_iload_n hx hb dX3_delayOf_4 rfl (lv_at hl 1 rfl) ?_
  refine lv_iload_n hx hb dX3_delayOf_5 rfl (lv_at hl 2 rfl) ?_
  obtain ⟨r_1, e_1, h⟩ := sat_bind h
  refine cRN (rest := [.ref a1]) hx hb hml hown hk (k_X11_pairCell l D cI cZ cK x1 x2 r_1 e_1) (me_X11_pairCell hk.2.1) (ms_X11_pairCell hk.2.1) (hk.2.2.1 (RX3, 31, yX11_pairCell) (List.mem_of_getElem? (i := 9) rfl)) (hP.sub [] rfl) hl.1 rfl rfl (Nat.le_of_ble_eq_true rfl) ⟨rfl, rfl, Nat.le_of_ble_eq_true rfl, Nat.le_of_ble_eq_true rfl, Nat.zero_le _, Nat.zero_le _⟩ dX3_delayOf_6 ?_
  obtain ⟨hi, h⟩ := sat_in h
  refine va_iald hx hb hk.1 hP 1 0 rfl rfl hi dX3_delayOf_9 ?_
  have hR := hC0 _ (sat_some h)
  subst hR
  exact hret _ _ dX3_delayOf_10
def f_X3_neighboursOf_L4 (dl : ar) (x1 : Int32) : Nat → Int32 → Int32 → Option (Int32)
  | 0, _, _ => none
  | n + 1, x2_4, x3_4 => if 6 ≤ x3_4 then some x2_4 else Option.bind (f_X3_delayOf dl x1 x3_4) fun r_1 => if r_1 ≤ 0 then f_X3_neighboursOf_L4 dl x1 n x2_4 (x3_4 + 1) else f_X3_neighboursOf_L4 dl x1 n (x2_4 + 1) (x3_4 + 1)
def f_X3_neighboursOf (N : Nat) (dl : ar) (x1 : Int32) : Option (Int32) := Option.bind (f_X3_neighboursOf_L4 dl x1 N 0 0) fun s4 => some s4
abbrev rm_X3_neighboursOf : Room := { frames := 2, cells := 0, slots := 0, locals := 43 }
set_option maxRecDepth 100000 in
set_option maxHeartbeats 4000000 in
theorem k_X3_neighboursOf (l : Launch) (D : va_G) (cI cZ cK : ClassId) (N : Nat) (a0 a1 : Nat) (lt : Int32) (dl : ar) (x1 : Int32) (R : Int32) (h : f_X3_neighboursOf N dl x1 = some R) : Rd l D cI cZ cK yX3_neighboursOf cX3_neighboursOf 4 (some .int) rm_X3_neighboursOf [.ref a0, .int x1] [(a0, .inr (3, [.ref a1, .int lt])), (a1, .inl (cI, 36, .inl dl))] R := by
  refine rd_of (by decide) (vp_nar_int _) (Nat.le_of_ble_eq_true rfl) ?_
  intro p e s m args below meth c Q ls hx hb hml hown hk hP hret hl
  have hl : lv_has ls 4 [(0, .ref a0), (1, .int x1)] := hl
  obtain ⟨C0, hC0, h⟩ := sat_top h
  unfold f_X3_neighboursOf at h
  refine lv_iconst (v := 0) hx hb dX3_neighboursOf_0 (by decide) ?_
  refine lv_istore_n (lv' := [(2, .int 0), (0, .ref a0), (1, .int x1)]) hx hb dX3_neighboursOf_1 rfl hl (by decide) rfl (fun ls hl => ?_)
  refine lv_iconst (v := 0) hx hb dX3_neighboursOf_2 (by decide) ?_
  refine lv_istore_n (lv' := [(3, .int 0), (2, .int 0), (0, .ref a0), (1, .int x1)]) hx hb dX3_neighboursOf_3 rfl hl (by decide) rfl (fun ls hl => ?_)
  obtain ⟨T4, hT4, h⟩ := sat_reg h
  have E4 : ∀ (e2_2 : Int32) (ls : Array Slot), T4 e2_2 → lv_has ls 4 [(2, .int e2_2)] → W p l e rm_X3_neighboursOf s m args below meth c s.heap [] 0 0 Q (F0 m 28 ls []) := by
    intro e2_2 ls h hl
    have h := hT4 _ h
    refine lv_iload_n hx hb dX3_neighboursOf_28 rfl (lv_at hl 0 rfl) ?_
    have hR := hC0 _ (sat_some h)
    subst hR
    exact hret _ _ dX3_neighboursOf_29
  have L4 : ∀ (n : Nat) (x2_4 : Int32) (x3_4 : Int32) (ls : Array Slot), sat (f_X3_neighboursOf_L4 dl x1 n x2_4 x3_4) T4 → lv_has ls 4 [(0, .ref a0), (1, .int x1), (2, .int x2_4), (3, .int x3_4)] → W p l e rm_X3_neighboursOf s m args below meth c s.heap [] 0 0 Q (F0 m 4 ls []) := by
    intro n
    induction n with
    | zero =>
      intro x2_4 x3_4 ls h
      rw [f_X3_neighboursOf_L4] at h
      exact (sat_none h).elim
    | succ n ih =>
      intro x2_4 x3_4 ls h hl
      rw [f_X3_neighboursOf_L4] at h
      refine lv_iload_n hx hb dX3_neighboursOf_4 rfl (lv_at hl 3 rfl) ?_
      refine lv_bipush (v := 6) hx hb dX3_neighboursOf_5 (by decide) ?_
      refine lv_icmp_ge (tgt := 28) hx hb dX3_neighboursOf_7 (by decide) (fun c7 => ?_) (fun c7 => ?_)
      · have h := sat_t c7 h
        exact E4 x2_4 _ (sat_some h) (lv_sub hl [2] rfl)
      · have h := sat_f c7 h
        refine lv_aload_n hx hb dX3_neighboursOf_10 rfl (lv_at hl 0 rfl) ?_
        refine lv_iload_n hx hb dX3_neighboursOf_11 rfl (lv_at hl 1 rfl) ?_
        refine lv_iload_n hx hb dX3_neighboursOf_12 rfl (lv_at hl 3 rfl) ?_
        obtain ⟨r_1, e_1, h⟩ := sat_bind h
        refine cRV (rest := []) hx hb hml hown hk (k_X3_delayOf l D cI cZ cK a0 a1 lt dl x1 x3_4 r_1 e_1) (me_X3_delayOf hk.2.1) (mi_X3_delayOf hk.2.1) (ml_X3_35 hk.2.1) (hP.sub [0, 1] rfl) 0 rfl rfl rfl hl.1 rfl rfl (Nat.le_of_ble_eq_true rfl) ⟨rfl, rfl, Nat.le_of_ble_eq_true rfl, Nat.le_of_ble_eq_true rfl, Nat.zero_le _, Nat.zero_le _⟩ dX3_neighboursOf_13 ?_
        refine lv_if_le (tgt := 22) hx hb dX3_neighboursOf_16 (by decide) (fun c16 => ?_) (fun c16 => ?_)
        · have h := sat_t c16 h
          refine lv_iinc (v := x3_4 + 1) (lv' := [(3, .int (x3_4 + 1)), (0, .ref a0), (1, .int x1), (2, .int x2_4)]) hx hb dX3_neighboursOf_22 hl (k := 3) rfl (congrArg (fun z => x3_4 + z) (by decide)) (by decide) rfl (fun ls hl => ?_)
          refine lv_goto (tgt := 4) hx hb dX3_neighboursOf_25 (by decide) ?_
          exact ih x2_4 (x3_4 + 1) _ h (lv_sub hl [1, 2, 3, 0] rfl)
        · have h := sat_f c16 h
          refine lv_iinc (v := x2_4 + 1) (lv' := [(2, .int (x2_4 + 1)), (0, .ref a0), (1, .int x1), (3, .int x3_4)]) hx hb dX3_neighboursOf_19 hl (k := 2) rfl (congrArg (fun z => x2_4 + z) (by decide)) (by decide) rfl (fun ls hl => ?_)
          refine lv_iinc (v := x3_4 + 1) (lv' := [(3, .int (x3_4 + 1)), (2, .int (x2_4 + 1)), (0, .ref a0), (1, .int x1)]) hx hb dX3_neighboursOf_22 hl (k := 3) rfl (congrArg (fun z => x3_4 + z) (by decide)) (by decide) rfl (fun ls hl => ?_)
          refine lv_goto (tgt := 4) hx hb dX3_neighboursOf_25 (by decide) ?_
          exact ih (x2_4 + 1) (x3_4 + 1) _ h (lv_sub hl [2, 3, 1, 0] rfl)
  exact L4 N 0 0 _ h (lv_sub hl [2, 3, 1, 0] rfl)
def f_X3_pairOf_L29 (dl : ar) (x1 : Int32) (x3_18 : Int32) : Nat → Int32 → Int32 → Option (((Int32) ⊕ (Unit)) ⊕ (Int32))
  | 0, _, _ => none
  | n + 1, x2_29, x4_29 => if 6 ≤ x4_29 then some (.inr x2_29) else Option.bind (f_X3_delayOf dl x3_18 x4_29) fun r_1 => if r_1 ≤ 0 then f_X3_pairOf_L29 dl x1 x3_18 n x2_29 (x4_29 + 1) else if x2_29 = x1 then Option.bind (f_X11_pairCell x3_18 x4_29) fun r_2 => some (.inl (.inl r_2)) else f_X3_pairOf_L29 dl x1 x3_18 n (x2_29 + 1) (x4_29 + 1)
def f_X3_pairOf_L18 (dl : ar) (x1 : Int32) (N : Nat) : Nat → Int32 → Int32 → Option ((Int32) ⊕ (Unit))
  | 0, _, _ => none
  | n + 1, x2_18, x3_18 => if 6 ≤ x3_18 then some (.inr ()) else lb (f_X3_pairOf_L29 dl x1 x3_18 N x2_18 (x3_18 + 1)) fun s29 => f_X3_pairOf_L18 dl x1 N n s29 (x3_18 + 1)
def f_X3_pairOf (N : Nat) (dl : ar) (lt : Int32) (x1 : Int32) : Option (Int32) := if x1 < 0 then some (-1) else if x1 < lt then lb (f_X3_pairOf_L18 dl x1 N N 0 0) fun s18 => some (-1) else some (-1)
abbrev rm_X3_pairOf : Room := { frames := 2, cells := 0, slots := 0, locals := 43 }
set_option maxRecDepth 100000 in
set_option maxHeartbeats 4000000 in
theorem k_X3_pairOf (l : Launch) (D : va_G) (cI cZ cK : ClassId) (N : Nat) (a0 a1 : Nat) (lt : Int32) (dl : ar) (x1 : Int32) (R : Int32) (h : f_X3_pairOf N dl lt x1 = some R) : Rd l D cI cZ cK yX3_pairOf cX3_pairOf 5 (some .int) rm_X3_pairOf [.ref a0, .int x1] [(a0, .inr (3, [.ref a1, .int lt])), (a1, .inl (cI, 36, .inl dl))] R := by
  refine rd_of (by decide) (vp_nar_int _) (Nat.le_of_ble_eq_true rfl) ?_
  intro p e s m args below meth c Q ls hx hb hml hown hk hP hret hl
  have hl : lv_has ls 5 [(0, .ref a0), (1, .int x1)] := hl
  obtain ⟨C0, hC0, h⟩ := sat_top h
  unfold f_X3_pairOf at h
  refine lv_iload_n hx hb dX3_pairOf_0 rfl (lv_at hl 1 rfl) ?_
  refine lv_if_lt (tgt := 12) hx hb dX3_pairOf_1 (by decide) (fun c1 => ?_) (fun c1 => ?_)
  · have h := sat_t c1 h
    refine lv_iconst (v := (-1)) hx hb dX3_pairOf_12 (by decide) ?_
    have hR := hC0 _ (sat_some h)
    subst hR
    exact hret _ _ dX3_pairOf_13
  · have h := sat_f c1 h
    refine lv_iload_n hx hb dX3_pairOf_4 rfl (lv_at hl 1 rfl) ?_
    refine lv_aload_n hx hb dX3_pairOf_5 rfl (lv_at hl 0 rfl) ?_
    refine gf_X3_21 hx hb hown hk hP 0 rfl rfl dX3_pairOf_6 ?_
    refine lv_icmp_lt (tgt := 14) hx hb dX3_pairOf_9 (by decide) (fun c9 => ?_) (fun c9 => ?_)
    · have h := sat_t c9 h
      refine lv_iconst (v := 0) hx hb dX3_pairOf_14 (by decide) ?_
      refine lv_istore_n (lv' := [(2, .int 0), (0, .ref a0), (1, .int x1)]) hx hb dX3_pairOf_15 rfl hl (by decide) rfl (fun ls hl => ?_)
      refine lv_iconst (v := 0) hx hb dX3_pairOf_16 (by decide) ?_
      refine lv_istore_n (lv' := [(3, .int 0), (2, .int 0), (0, .ref a0), (1, .int x1)]) hx hb dX3_pairOf_17 rfl hl (by decide) rfl (fun ls hl => ?_)
      obtain ⟨T18, hr18, hT18, h⟩ := sat_lbr h
      have E18 : ∀  (ls : Array Slot), T18 (.inr ()) → lv_has ls 5 [] → W p l e rm_X3_pairOf s m args below meth c s.heap [] 0 0 Q (F0 m 73 ls []) := by
        intro  ls h hl
        have h := hT18 _ h
        refine lv_iconst (v := (-1)) hx hb dX3_pairOf_73 (by decide) ?_
        have hR := hC0 _ (sat_some h)
        subst hR
        exact hret _ _ dX3_pairOf_74
      have L18 : ∀ (n : Nat) (x2_18 : Int32) (x3_18 : Int32) (ls : Array Slot), sat (f_X3_pairOf_L18 dl x1 N n x2_18 x3_18) T18 → lv_has ls 5 [(0, .ref a0), (1, .int x1), (2, .int x2_18), (3, .int x3_18)] → W p l e rm_X3_pairOf s m args below meth c s.heap [] 0 0 Q (F0 m 18 ls []) := by
        intro n
        induction n with
        | zero =>
          intro x2_18 x3_18 ls h
          rw [f_X3_pairOf_L18] at h
          exact (sat_none h).elim
        | succ n ih =>
          intro x2_18 x3_18 ls h hl
          rw [f_X3_pairOf_L18] at h
          refine lv_iload_n hx hb dX3_pairOf_18 rfl (lv_at hl 3 rfl) ?_
          refine lv_bipush (v := 6) hx hb dX3_pairOf_19 (by decide) ?_
          refine lv_icmp_ge (tgt := 73) hx hb dX3_pairOf_21 (by decide) (fun c21 => ?_) (fun c21 => ?_)
          · have h := sat_t c21 h
            exact E18  _ (sat_some h) (lv_sub hl [] rfl)
          · have h := sat_f c21 h
            refine lv_iload_n hx hb dX3_pairOf_24 rfl (lv_at hl 3 rfl) ?_
            refine lv_iconst (v := 1) hx hb dX3_pairOf_25 (by decide) ?_
            refine lv_iadd hx hb dX3_pairOf_26 ?_
            refine lv_istore (lv' := [(4, .int (x3_18 + 1)), (0, .ref a0), (1, .int x1), (2, .int x2_18), (3, .int x3_18)]) hx hb dX3_pairOf_27 hl (by decide) rfl (fun ls hl => ?_)
            obtain ⟨T29, hr29, hT29, h⟩ := sat_lbr h
            have E29 : ∀ (e2_3 : Int32) (ls : Array Slot), T29 (.inr e2_3) → lv_has ls 5 [(0, .ref a0), (1, .int x1), (2, .int e2_3), (3, .int x3_18)] → W p l e rm_X3_pairOf s m args below meth c s.heap [] 0 0 Q (F0 m 67 ls []) := by
              intro e2_3 ls h hl
              have h := hT29 _ h
              refine lv_iinc (v := x3_18 + 1) (lv' := [(3, .int (x3_18 + 1)), (0, .ref a0), (1, .int x1), (2, .int e2_3)]) hx hb dX3_pairOf_67 hl (k := 3) rfl (congrArg (fun z => x3_18 + z) (by decide)) (by decide) rfl (fun ls hl => ?_)
              refine lv_goto (tgt := 18) hx hb dX3_pairOf_70 (by decide) ?_
              exact ih e2_3 (x3_18 + 1) _ h (lv_sub hl [1, 2, 3, 0] rfl)
            have L29 : ∀ (n : Nat) (x2_29 : Int32) (x4_29 : Int32) (ls : Array Slot), sat (f_X3_pairOf_L29 dl x1 x3_18 n x2_29 x4_29) T29 → lv_has ls 5 [(0, .ref a0), (1, .int x1), (2, .int x2_29), (3, .int x3_18), (4, .int x4_29)] → W p l e rm_X3_pairOf s m args below meth c s.heap [] 0 0 Q (F0 m 29 ls []) := by
              intro n
              induction n with
              | zero =>
                intro x2_29 x4_29 ls h
                rw [f_X3_pairOf_L29] at h
                exact (sat_none h).elim
              | succ n ih =>
                intro x2_29 x4_29 ls h hl
                rw [f_X3_pairOf_L29] at h
                refine lv_iload hx hb dX3_pairOf_29 (lv_at hl 4 rfl) ?_
                refine lv_bipush (v := 6) hx hb dX3_pairOf_31 (by decide) ?_
                refine lv_icmp_ge (tgt := 67) hx hb dX3_pairOf_33 (by decide) (fun c33 => ?_) (fun c33 => ?_)
                · have h := sat_t c33 h
                  exact E29 x2_29 _ (sat_some h) (lv_sub hl [0, 1, 2, 3] rfl)
                · have h := sat_f c33 h
                  refine lv_aload_n hx hb dX3_pairOf_36 rfl (lv_at hl 0 rfl) ?_
                  refine lv_iload_n hx hb dX3_pairOf_37 rfl (lv_at hl 3 rfl) ?_
                  refine lv_iload hx hb dX3_pairOf_38 (lv_at hl 4 rfl) ?_
                  obtain ⟨r_1, e_1, h⟩ := sat_bind h
                  refine cRV (rest := []) hx hb hml hown hk (k_X3_delayOf l D cI cZ cK a0 a1 lt dl x3_18 x4_29 r_1 e_1) (me_X3_delayOf hk.2.1) (mi_X3_delayOf hk.2.1) (ml_X3_35 hk.2.1) (hP.sub [0, 1] rfl) 0 rfl rfl rfl hl.1 rfl rfl (Nat.le_of_ble_eq_true rfl) ⟨rfl, rfl, Nat.le_of_ble_eq_true rfl, Nat.le_of_ble_eq_true rfl, Nat.zero_le _, Nat.zero_le _⟩ dX3_pairOf_40 ?_
                  refine lv_if_le (tgt := 61) hx hb dX3_pairOf_43 (by decide) (fun c43 => ?_) (fun c43 => ?_)
                  · have h := sat_t c43 h
                    refine lv_iinc (v := x4_29 + 1) (lv' := [(4, .int (x4_29 + 1)), (0, .ref a0), (1, .int x1), (2, .int x2_29), (3, .int x3_18)]) hx hb dX3_pairOf_61 hl (k := 4) rfl (congrArg (fun z => x4_29 + z) (by decide)) (by decide) rfl (fun ls hl => ?_)
                    refine lv_goto (tgt := 29) hx hb dX3_pairOf_64 (by decide) ?_
                    exact ih x2_29 (x4_29 + 1) _ h (lv_sub hl [1, 2, 3, 4, 0] rfl)
                  · have h := sat_f c43 h
                    refine lv_iload_n hx hb dX3_pairOf_46 rfl (lv_at hl 2 rfl) ?_
                    refine lv_iload_n hx hb dX3_pairOf_47 rfl (lv_at hl 1 rfl) ?_
                    refine lv_icmp_ne (tgt := 58) hx hb dX3_pairOf_48 (by decide) (fun c48 => ?_) (fun c48 => ?_)
                    · have h := sat_f c48 h
                      refine lv_iinc (v := x2_29 + 1) (lv' := [(2, .int (x2_29 + 1)), (0, .ref a0), (1, .int x1), (3, .int x3_18), (4, .int x4_29)]) hx hb dX3_pairOf_58 hl (k := 2) rfl (congrArg (fun z => x2_29 + z) (by decide)) (by decide) rfl (fun ls hl => ?_)
                      refine lv_iinc (v := x4_29 + 1) (lv' := [(4, .int (x4_29 + 1)), (2, .int (x2_29 + 1)), (0, .ref a0), (1, .int x1), (3, .int x3_18)]) hx hb dX3_pairOf_61 hl (k := 4) rfl (congrArg (fun z => x4_29 + z) (by decide)) (by decide) rfl (fun ls hl => ?_)
                      refine lv_goto (tgt := 29) hx hb dX3_pairOf_64 (by decide) ?_
                      exact ih (x2_29 + 1) (x4_29 + 1) _ h (lv_sub hl [2, 3, 1, 4, 0] rfl)
                    · have h := sat_t c48 h
                      refine lv_iload_n hx hb dX3_pairOf_51 rfl (lv_at hl 3 rfl) ?_
                      refine lv_iload hx hb dX3_pairOf_52 (lv_at hl 4 rfl) ?_
                      obtain ⟨r_2, e_2, h⟩ := sat_bind h
                      refine cRN (rest := []) hx hb hml hown hk (k_X11_pairCell l D cI cZ cK x3_18 x4_29 r_2 e_2) (me_X11_pairCell hk.2.1) (ms_X11_pairCell hk.2.1) (hk.2.2.1 (RX3, 31, yX11_pairCell) (List.mem_of_getElem? (i := 9) rfl)) (hP.sub [] rfl) hl.1 rfl rfl (Nat.le_of_ble_eq_true rfl) ⟨rfl, rfl, Nat.le_of_ble_eq_true rfl, Nat.le_of_ble_eq_true rfl, Nat.zero_le _, Nat.zero_le _⟩ dX3_pairOf_54 ?_
                      have hR := hC0 _ (hr18 _ (hr29 _ (sat_some h)))
                      subst hR
                      exact hret _ _ dX3_pairOf_57
            exact L29 N x2_18 (x3_18 + 1) _ h (lv_sub hl [1, 2, 3, 4, 0] rfl)
      exact L18 N 0 0 _ h (lv_sub hl [2, 3, 1, 0] rfl)
    · have h := sat_f c9 h
      refine lv_iconst (v := (-1)) hx hb dX3_pairOf_12 (by decide) ?_
      have hR := hC0 _ (sat_some h)
      subst hR
      exact hret _ _ dX3_pairOf_13
def f_X3_put (dl : ar) (lt : Int32) (x1 : Int32) (x2 : Int32) (x3 : Int32) : Option (Int32 × ar) := Option.bind (f_X3_delayOf dl x1 x2) fun r_1 => Option.bind (α := Int32) (if r_1 = 0 then some (lt + 1) else some lt) fun j6 => Option.bind (f_X11_pairCell x1 x2) fun r_3 => ck (inb r_3 36) (Option.bind (f_X11_pairCell x2 x1) fun r_4 => ck (inb r_4 36) (some (j6, upd (upd dl r_3.toNatClampNeg x3) r_4.toNatClampNeg x3)))
abbrev rm_X3_put : Room := { frames := 2, cells := 0, slots := 0, locals := 43 }
set_option maxRecDepth 100000 in
set_option maxHeartbeats 4000000 in
theorem k_X3_put (l : Launch) (D : va_G) (cI cZ cK : ClassId) (a0 a1 : Nat) (lt : Int32) (dl : ar) (x1 : Int32) (x2 : Int32) (x3 : Int32) (R : Int32 × ar) (h : f_X3_put dl lt x1 x2 x3 = some R) : Mu l D cI cZ cK yX3_put cX3_put 4 none rm_X3_put [.ref a0, .int x1, .int x2, .int x3] [(a0, .inr (3, [.ref a1, .int lt])), (a1, .inl (cI, 36, .inl dl))] none [(a0, .inr (3, [.ref a1, .int R.1])), (a1, .inl (cI, 36, .inl R.2))] := by
  refine mv_of (by decide) (Nat.le_of_ble_eq_true rfl) ?_
  intro p e s m args below meth c Q A ls hx hb hml hown hk hA w hret hl
  have hl : lv_has ls 4 [(0, .ref a0), (1, .int x1), (2, .int x2), (3, .int x3)] := hl
  obtain ⟨C0, hC0, h⟩ := sat_top h
  unfold f_X3_put at h
  refine lv_aload_n hx hb dX3_put_0 rfl (lv_at hl 0 rfl) ?_
  refine lv_iload_n hx hb dX3_put_1 rfl (lv_at hl 1 rfl) ?_
  refine lv_iload_n hx hb dX3_put_2 rfl (lv_at hl 2 rfl) ?_
  obtain ⟨r_1, e_1, h⟩ := sat_bind h
  refine cRV (rest := []) hx hb hml hown hk (k_X3_delayOf l D cI cZ cK a0 a1 lt dl x1 x2 r_1 e_1) (me_X3_delayOf hk.2.1) (mi_X3_delayOf hk.2.1) (ml_X3_35 hk.2.1) (w.1.sub [0, 1] rfl) 0 rfl rfl rfl hl.1 rfl rfl (Nat.le_of_ble_eq_true rfl) ⟨rfl, rfl, Nat.le_of_ble_eq_true rfl, Nat.le_of_ble_eq_true rfl, Nat.zero_le _, Nat.zero_le _⟩ dX3_put_3 ?_
  obtain ⟨T6, hT6, h⟩ := sat_reg h
  have J6 : ∀ (lt_2 : Int32) (H : Heap) (locs : List Loc) (ls : Array Slot), T6 lt_2 → wd D A s.heap H locs [(a0, .inr (3, [.ref a1, .int lt_2])), (a1, .inl (cI, 36, .inl dl))] → lv_has ls 4 [(0, .ref a0), (1, .int x1), (2, .int x2), (3, .int x3)] → W p l e rm_X3_put s m args below meth c H locs 0 0 Q (F0 m 19 ls []) := by
    intro lt_2 H locs ls h w hl
    have h := hT6 _ h
    refine lv_aload_n hx hb dX3_put_19 rfl (lv_at hl 0 rfl) ?_
    refine gf_X3_9 hx hb hown hk w.1 0 rfl rfl dX3_put_20 ?_
    refine lv_iload_n hx hb dX3_put_23 rfl (lv_at hl 1 rfl) ?_
    refine lv_iload_n hx hb dX3_put_24 rfl (lv_at hl 2 rfl) ?_
    obtain ⟨r_3, e_3, h⟩ := sat_bind h
    refine cRN (rest := [.ref a1]) hx hb hml hown hk (k_X11_pairCell l D cI cZ cK x1 x2 r_3 e_3) (me_X11_pairCell hk.2.1) (ms_X11_pairCell hk.2.1) (hk.2.2.1 (RX3, 31, yX11_pairCell) (List.mem_of_getElem? (i := 9) rfl)) (w.1.sub [] rfl) hl.1 rfl rfl (Nat.le_of_ble_eq_true rfl) ⟨rfl, rfl, Nat.le_of_ble_eq_true rfl, Nat.le_of_ble_eq_true rfl, Nat.zero_le _, Nat.zero_le _⟩ dX3_put_25 ?_
    refine lv_iload_n hx hb dX3_put_28 rfl (lv_at hl 3 rfl) ?_
    obtain ⟨hi, h⟩ := sat_in h
    refine ra_ist (ws' := [(a0, .inr (3, [.ref a1, .int lt_2])), (a1, .inl (cI, 36, .inl (upd dl r_3.toNatClampNeg x3)))]) hx hb hk w 1 rfl hi rfl dX3_put_29 (fun H locs w => ?_)
    refine lv_aload_n hx hb dX3_put_30 rfl (lv_at hl 0 rfl) ?_
    refine gf_X3_9 hx hb hown hk w.1 0 rfl rfl dX3_put_31 ?_
    refine lv_iload_n hx hb dX3_put_34 rfl (lv_at hl 2 rfl) ?_
    refine lv_iload_n hx hb dX3_put_35 rfl (lv_at hl 1 rfl) ?_
    obtain ⟨r_4, e_4, h⟩ := sat_bind h
    refine cRN (rest := [.ref a1]) hx hb hml hown hk (k_X11_pairCell l D cI cZ cK x2 x1 r_4 e_4) (me_X11_pairCell hk.2.1) (ms_X11_pairCell hk.2.1) (hk.2.2.1 (RX3, 31, yX11_pairCell) (List.mem_of_getElem? (i := 9) rfl)) (w.1.sub [] rfl) hl.1 rfl rfl (Nat.le_of_ble_eq_true rfl) ⟨rfl, rfl, Nat.le_of_ble_eq_true rfl, Nat.le_of_ble_eq_true rfl, Nat.zero_le _, Nat.zero_le _⟩ dX3_put_36 ?_
    refine lv_iload_n hx hb dX3_put_39 rfl (lv_at hl 3 rfl) ?_
    obtain ⟨hi, h⟩ := sat_in h
    refine ra_ist (ws' := [(a0, .inr (3, [.ref a1, .int lt_2])), (a1, .inl (cI, 36, .inl (upd (upd dl r_3.toNatClampNeg x3) r_4.toNatClampNeg x3)))]) hx hb hk w 1 rfl hi rfl dX3_put_40 (fun H locs w => ?_)
    have hR := hC0 _ (sat_some h)
    subst hR
    exact hret _ _ _ _ w dX3_put_41
  refine lv_if_ne (tgt := 19) hx hb dX3_put_6 (by decide) (fun c6 => ?_) (fun c6 => ?_)
  · have h := sat_f c6 h
    exact J6 lt _ _ _ (sat_some h) w (lv_sub hl [0, 1, 2, 3] rfl)
  · have h := sat_t c6 h
    refine lv_aload_n hx hb dX3_put_9 rfl (lv_at hl 0 rfl) ?_
    refine lv_dup hx hb dX3_put_10 rfl ?_
    refine gf_X3_21 hx hb hown hk w.1 0 rfl rfl dX3_put_11 ?_
    refine lv_iconst (v := 1) hx hb dX3_put_14 (by decide) ?_
    refine lv_iadd hx hb dX3_put_15 ?_
    refine pf_X3_21 (ws' := [(a0, .inr (3, [.ref a1, .int (lt + 1)])), (a1, .inl (cI, 36, .inl dl))]) hx hb hown hk w 0 rfl (Nat.le_of_ble_eq_true rfl) rfl dX3_put_16 (fun H locs w => ?_)
    exact J6 (lt + 1) _ _ _ (sat_some h) w (lv_sub hl [0, 1, 2, 3] rfl)
def f_X3_takeAway (dl : ar) (lt : Int32) (x1 : Int32) (x2 : Int32) : Option (Int32 × ar) := Option.bind (f_X3_delayOf dl x1 x2) fun r_1 => Option.bind (α := Int32) (if r_1 ≤ 0 then some lt else some (lt - 1)) fun j6 => Option.bind (f_X11_pairCell x1 x2) fun r_3 => ck (inb r_3 36) (Option.bind (f_X11_pairCell x2 x1) fun r_4 => ck (inb r_4 36) (some (j6, upd (upd dl r_3.toNatClampNeg 0) r_4.toNatClampNeg 0)))
abbrev rm_X3_takeAway : Room := { frames := 2, cells := 0, slots := 0, locals := 43 }
set_option maxRecDepth 100000 in
set_option maxHeartbeats 4000000 in
theorem k_X3_takeAway (l : Launch) (D : va_G) (cI cZ cK : ClassId) (a0 a1 : Nat) (lt : Int32) (dl : ar) (x1 : Int32) (x2 : Int32) (R : Int32 × ar) (h : f_X3_takeAway dl lt x1 x2 = some R) : Mu l D cI cZ cK yX3_takeAway cX3_takeAway 3 none rm_X3_takeAway [.ref a0, .int x1, .int x2] [(a0, .inr (3, [.ref a1, .int lt])), (a1, .inl (cI, 36, .inl dl))] none [(a0, .inr (3, [.ref a1, .int R.1])), (a1, .inl (cI, 36, .inl R.2))] := by
  refine mv_of (by decide) (Nat.le_of_ble_eq_true rfl) ?_
  intro p e s m args below meth c Q A ls hx hb hml hown hk hA w hret hl
  have hl : lv_has ls 3 [(0, .ref a0), (1, .int x1), (2, .int x2)] := hl
  obtain ⟨C0, hC0, h⟩ := sat_top h
  unfold f_X3_takeAway at h
  refine lv_aload_n hx hb dX3_takeAway_0 rfl (lv_at hl 0 rfl) ?_
  refine lv_iload_n hx hb dX3_takeAway_1 rfl (lv_at hl 1 rfl) ?_
  refine lv_iload_n hx hb dX3_takeAway_2 rfl (lv_at hl 2 rfl) ?_
  obtain ⟨r_1, e_1, h⟩ := sat_bind h
  refine cRV (rest := []) hx hb hml hown hk (k_X3_delayOf l D cI cZ cK a0 a1 lt dl x1 x2 r_1 e_1) (me_X3_delayOf hk.2.1) (mi_X3_delayOf hk.2.1) (ml_X3_35 hk.2.1) (w.1.sub [0, 1] rfl) 0 rfl rfl rfl hl.1 rfl rfl (Nat.le_of_ble_eq_true rfl) ⟨rfl, rfl, Nat.le_of_ble_eq_true rfl, Nat.le_of_ble_eq_true rfl, Nat.zero_le _, Nat.zero_le _⟩ dX3_takeAway_3 ?_
  obtain ⟨T6, hT6, h⟩ := sat_reg h
  have J6 : ∀ (lt_2 : Int32) (H : Heap) (locs : List Loc) (ls : Array Slot), T6 lt_2 → wd D A s.heap H locs [(a0, .inr (3, [.ref a1, .int lt_2])), (a1, .inl (cI, 36, .inl dl))] → lv_has ls 3 [(0, .ref a0), (1, .int x1), (2, .int x2)] → W p l e rm_X3_takeAway s m args below meth c H locs 0 0 Q (F0 m 19 ls []) := by
    intro lt_2 H locs ls h w hl
    have h := hT6 _ h
    refine lv_aload_n hx hb dX3_takeAway_19 rfl (lv_at hl 0 rfl) ?_
    refine gf_X3_9 hx hb hown hk w.1 0 rfl rfl dX3_takeAway_20 ?_
    refine lv_iload_n hx hb dX3_takeAway_23 rfl (lv_at hl 1 rfl) ?_
    refine lv_iload_n hx hb dX3_takeAway_24 rfl (lv_at hl 2 rfl) ?_
    obtain ⟨r_3, e_3, h⟩ := sat_bind h
    refine cRN (rest := [.ref a1]) hx hb hml hown hk (k_X11_pairCell l D cI cZ cK x1 x2 r_3 e_3) (me_X11_pairCell hk.2.1) (ms_X11_pairCell hk.2.1) (hk.2.2.1 (RX3, 31, yX11_pairCell) (List.mem_of_getElem? (i := 9) rfl)) (w.1.sub [] rfl) hl.1 rfl rfl (Nat.le_of_ble_eq_true rfl) ⟨rfl, rfl, Nat.le_of_ble_eq_true rfl, Nat.le_of_ble_eq_true rfl, Nat.zero_le _, Nat.zero_le _⟩ dX3_takeAway_25 ?_
    refine lv_iconst (v := 0) hx hb dX3_takeAway_28 (by decide) ?_
    obtain ⟨hi, h⟩ := sat_in h
    refine ra_ist (ws' := [(a0, .inr (3, [.ref a1, .int lt_2])), (a1, .inl (cI, 36, .inl (upd dl r_3.toNatClampNeg 0)))]) hx hb hk w 1 rfl hi rfl dX3_takeAway_29 (fun H locs w => ?_)
    refine lv_aload_n hx hb dX3_takeAway_30 rfl (lv_at hl 0 rfl) ?_
    refine gf_X3_9 hx hb hown hk w.1 0 rfl rfl dX3_takeAway_31 ?_
    refine lv_iload_n hx hb dX3_takeAway_34 rfl (lv_at hl 2 rfl) ?_
    refine lv_iload_n hx hb dX3_takeAway_35 rfl (lv_at hl 1 rfl) ?_
    obtain ⟨r_4, e_4, h⟩ := sat_bind h
    refine cRN (rest := [.ref a1]) hx hb hml hown hk (k_X11_pairCell l D cI cZ cK x2 x1 r_4 e_4) (me_X11_pairCell hk.2.1) (ms_X11_pairCell hk.2.1) (hk.2.2.1 (RX3, 31, yX11_pairCell) (List.mem_of_getElem? (i := 9) rfl)) (w.1.sub [] rfl) hl.1 rfl rfl (Nat.le_of_ble_eq_true rfl) ⟨rfl, rfl, Nat.le_of_ble_eq_true rfl, Nat.le_of_ble_eq_true rfl, Nat.zero_le _, Nat.zero_le _⟩ dX3_takeAway_36 ?_
    refine lv_iconst (v := 0) hx hb dX3_takeAway_39 (by decide) ?_
    obtain ⟨hi, h⟩ := sat_in h
    refine ra_ist (ws' := [(a0, .inr (3, [.ref a1, .int lt_2])), (a1, .inl (cI, 36, .inl (upd (upd dl r_3.toNatClampNeg 0) r_4.toNatClampNeg 0)))]) hx hb hk w 1 rfl hi rfl dX3_takeAway_40 (fun H locs w => ?_)
    have hR := hC0 _ (sat_some h)
    subst hR
    exact hret _ _ _ _ w dX3_takeAway_41
  refine lv_if_le (tgt := 19) hx hb dX3_takeAway_6 (by decide) (fun c6 => ?_) (fun c6 => ?_)
  · have h := sat_t c6 h
    exact J6 lt _ _ _ (sat_some h) w (lv_sub hl [0, 1, 2] rfl)
  · have h := sat_f c6 h
    refine lv_aload_n hx hb dX3_takeAway_9 rfl (lv_at hl 0 rfl) ?_
    refine lv_dup hx hb dX3_takeAway_10 rfl ?_
    refine gf_X3_21 hx hb hown hk w.1 0 rfl rfl dX3_takeAway_11 ?_
    refine lv_iconst (v := 1) hx hb dX3_takeAway_14 (by decide) ?_
    refine lv_isub hx hb dX3_takeAway_15 ?_
    refine pf_X3_21 (ws' := [(a0, .inr (3, [.ref a1, .int (lt - 1)])), (a1, .inl (cI, 36, .inl dl))]) hx hb hown hk w 0 rfl (Nat.le_of_ble_eq_true rfl) rfl dX3_takeAway_16 (fun H locs w => ?_)
    exact J6 (lt - 1) _ _ _ (sat_some h) w (lv_sub hl [0, 1, 2] rfl)
