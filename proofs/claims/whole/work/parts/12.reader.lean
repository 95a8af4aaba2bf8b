def f_X6_isDigit (x0 : Int32) : Option (Bool) := if x0 < 48 then some false else if 57 < x0 then some false else some true
abbrev rm_X6_isDigit : Room := { frames := 0, cells := 0, slots := 0, locals := 0 }
set_option maxRecDepth 100000 in
set_option maxHeartbeats 4000000 in
theorem k_X6_isDigit (l : Launch) (D : va_G) (cI cZ cK : ClassId) (x0 : Int32) (R : Bool) (h : f_X6_isDigit x0 = some R) : Rd l D cI cZ cK yX6_isDigit cX6_isDigit 1 (some .boolean) rm_X6_isDigit [.int x0] [] (b2i R) := by
  refine rd_of (by decide) (nar_b _) (Nat.le_of_ble_eq_true rfl) ?_
  intro p e s m args below meth c Q ls hx hb hml hown hk hP hret hl
  have hl : lv_has ls 1 [(0, .int x0)] := hl
  obtain ⟨C0, hC0, h⟩ := sat_top h
  unfold f_X6_isDigit at h
  refine lv_iload_n hx hb dX6_isDigit_0 rfl (lv_at hl 0 rfl) ?_
  refine lv_bipush (v := 48) hx hb dX6_isDigit_1 (by decide) ?_
  refine lv_icmp_lt (tgt := 16) hx hb dX6_isDigit_3 (by decide) (fun c3 => ?_) (fun c3 => ?_)
  · have h := sat_t c3 h
    refine lv_iconst (v := 0) hx hb dX6_isDigit_16 (by decide) ?_
    have hR := hC0 _ (sat_some h)
    subst hR
    exact hret _ _ dX6_isDigit_17
  · have h := sat_f c3 h
    refine lv_iload_n hx hb dX6_isDigit_6 rfl (lv_at hl 0 rfl) ?_
    refine lv_bipush (v := 57) hx hb dX6_isDigit_7 (by decide) ?_
    refine lv_icmp_gt (tgt := 16) hx hb dX6_isDigit_9 (by decide) (fun c9 => ?_) (fun c9 => ?_)
    · have h := sat_t c9 h
      refine lv_iconst (v := 0) hx hb dX6_isDigit_16 (by decide) ?_
      have hR := hC0 _ (sat_some h)
      subst hR
      exact hret _ _ dX6_isDigit_17
    · have h := sat_f c9 h
      refine lv_iconst (v := 1) hx hb dX6_isDigit_12 (by decide) ?_
      refine lv_goto (tgt := 17) hx hb dX6_isDigit_13 (by decide) ?_
      have hR := hC0 _ (sat_some h)
      subst hR
      exact hret _ _ dX6_isDigit_17
def f_X6_stepOverNumber_L5 (tx : ar) (tn : Int32) : Nat → Int32 → Int32 → Option (Int32 × Int32)
  | 0, _, _ => none
  | n + 1, nu_5, nx_5 => if tn ≤ nx_5 then some (nu_5, nx_5) else ck (inb nx_5 120) (Option.bind (f_X6_isDigit (tx nx_5.toNatClampNeg)) fun r_1 => if (b2i r_1) = 0 then some (nu_5, nx_5) else ck (inb nx_5 120) (f_X6_stepOverNumber_L5 tx tn n (if 100 < (((nu_5 * 10) + (tx nx_5.toNatClampNeg)) - 48) then 100 else ((nu_5 * 10) + (tx nx_5.toNatClampNeg)) - 48) (nx_5 + 1)))
def f_X6_stepOverNumber (N : Nat) (tx : ar) (tn : Int32) (pl : Int32) (nx : Int32) : Option (Int32 × Int32 × Int32) := Option.bind (f_X6_stepOverNumber_L5 tx tn N 0 nx) fun s5 => ck (inb pl 120) (Option.bind (α := Int32) (if (tx pl.toNatClampNeg) = 48 then if s5.2 ≤ (pl + 1) then some 0 else some 1 else some 0) fun j96 => if j96 = 0 then if s5.1 ≤ 99 then some ((-1), s5.1, s5.2) else some ((-2), s5.1, s5.2) else some ((-2), s5.1, s5.2))
abbrev rm_X6_stepOverNumber : Room := { frames := 1, cells := 0, slots := 0, locals := 20 }
set_option maxRecDepth 100000 in
set_option maxHeartbeats 4000000 in
theorem k_X6_stepOverNumber (l : Launch) (D : va_G) (cI cZ cK : ClassId) (N : Nat) (a0 a1 a3 a4 a2 : Nat) (it : Int32) (kd : Int32) (nu : Int32) (pl : Int32) (nx : Int32) (tn : Int32) (tx : ar) (R : Int32 × Int32 × Int32) (h : f_X6_stepOverNumber N tx tn pl nx = some R) : Mu l D cI cZ cK yX6_stepOverNumber cX6_stepOverNumber 2 none rm_X6_stepOverNumber [.ref a0] [(a0, .inr (6, [.ref a1, .ref a3, .ref a4, .int it, .int kd, .int nu, .int pl, .int nx])), (a1, .inr (9, [.ref a2, .int tn])), (a2, .inl (cI, 120, .inl tx))] none [(a0, .inr (6, [.ref a1, .ref a3, .ref a4, .int it, .int R.1, .int R.2.1, .int pl, .int R.2.2])), (a1, .inr (9, [.ref a2, .int tn])), (a2, .inl (cI, 120, .inl tx))] := by
  refine mv_of (by decide) (Nat.le_of_ble_eq_true rfl) ?_
  intro p e s m args below meth c Q A ls hx hb hml hown hk hA w hret hl
  have hl : lv_has ls 2 [(0, .ref a0)] := hl
  obtain ⟨C0, hC0, h⟩ := sat_top h
  unfold f_X6_stepOverNumber at h
  refine lv_aload_n hx hb dX6_stepOverNumber_0 rfl (lv_at hl 0 rfl) ?_
  refine lv_iconst (v := 0) hx hb dX6_stepOverNumber_1 (by decide) ?_
  refine pf_X6_73 (ws' := [(a0, .inr (6, [.ref a1, .ref a3, .ref a4, .int it, .int kd, .int 0, .int pl, .int nx])), (a1, .inr (9, [.ref a2, .int tn])), (a2, .inl (cI, 120, .inl tx))]) hx hb hown hk w 0 rfl (Nat.le_of_ble_eq_true rfl) rfl dX6_stepOverNumber_2 (fun H locs w => ?_)
  obtain ⟨T5, hT5, h⟩ := sat_reg h
  have E5 : ∀ (nu_2 : Int32) (nx_3 : Int32) (H : Heap) (locs : List Loc) (ls : Array Slot), T5 (nu_2, nx_3) → wd D A s.heap H locs [(a0, .inr (6, [.ref a1, .ref a3, .ref a4, .int it, .int kd, .int nu_2, .int pl, .int nx_3])), (a1, .inr (9, [.ref a2, .int tn])), (a2, .inl (cI, 120, .inl tx))] → lv_has ls 2 [(0, .ref a0)] → W p l e rm_X6_stepOverNumber s m args below meth c H locs 0 0 Q (F0 m 82 ls []) := by
    intro nu_2 nx_3 H locs ls h w hl
    have h := hT5 _ h
    dsimp only at h
    refine lv_aload_n hx hb dX6_stepOverNumber_82 rfl (lv_at hl 0 rfl) ?_
    refine gf_X6_25 hx hb hown hk w.1 0 rfl rfl dX6_stepOverNumber_83 ?_
    refine gf_X6_114 hx hb hown hk w.1 1 rfl rfl dX6_stepOverNumber_86 ?_
    refine lv_aload_n hx hb dX6_stepOverNumber_89 rfl (lv_at hl 0 rfl) ?_
    refine gf_X6_53 hx hb hown hk w.1 0 rfl rfl dX6_stepOverNumber_90 ?_
    obtain ⟨hi, h⟩ := sat_in h
    refine va_iald hx hb hk.1 w.1 2 0 rfl rfl hi dX6_stepOverNumber_93 ?_
    refine lv_bipush (v := 48) hx hb dX6_stepOverNumber_94 (by decide) ?_
    obtain ⟨T96, hT96, h⟩ := sat_reg h
    have J96 : ∀ (j_4 : Int32) (H : Heap) (locs : List Loc) (ls : Array Slot), T96 j_4 → wd D A s.heap H locs [(a0, .inr (6, [.ref a1, .ref a3, .ref a4, .int it, .int kd, .int nu_2, .int pl, .int nx_3])), (a1, .inr (9, [.ref a2, .int tn])), (a2, .inl (cI, 120, .inl tx))] → lv_has ls 2 [(0, .ref a0)] → W p l e rm_X6_stepOverNumber s m args below meth c H locs 0 0 Q (F0 m 117 ls [.int j_4]) := by
      intro j_4 H locs ls h w hl
      have h := hT96 _ h
      refine lv_istore_n (lv' := [(1, .int j_4), (0, .ref a0)]) hx hb dX6_stepOverNumber_117 rfl hl (by decide) rfl (fun ls hl => ?_)
      refine lv_aload_n hx hb dX6_stepOverNumber_118 rfl (lv_at hl 1 rfl) ?_
      refine lv_iload_n hx hb dX6_stepOverNumber_119 rfl (lv_at hl 0 rfl) ?_
      refine lv_if_ne (tgt := 132) hx hb dX6_stepOverNumber_120 (by decide) (fun c120 => ?_) (fun c120 => ?_)
      · have h := sat_f c120 h
        refine lv_bipush (v := (-2)) hx hb dX6_stepOverNumber_132 (by decide) ?_
        refine lv_goto (tgt := 138) hx hb dX6_stepOverNumber_134 (by decide) ?_
        refine pf_X6_43 (ws' := [(a0, .inr (6, [.ref a1, .ref a3, .ref a4, .int it, .int (-2), .int nu_2, .int pl, .int nx_3])), (a1, .inr (9, [.ref a2, .int tn])), (a2, .inl (cI, 120, .inl tx))]) hx hb hown hk w 0 rfl (Nat.le_of_ble_eq_true rfl) rfl dX6_stepOverNumber_138 (fun H locs w => ?_)
        have hR := hC0 _ (sat_some h)
        subst hR
        exact hret _ _ _ _ w dX6_stepOverNumber_141
      · have h := sat_t c120 h
        refine lv_aload_n hx hb dX6_stepOverNumber_123 rfl (lv_at hl 1 rfl) ?_
        refine gf_X6_73 hx hb hown hk w.1 0 rfl rfl dX6_stepOverNumber_124 ?_
        refine lv_bipush (v := 99) hx hb dX6_stepOverNumber_127 (by decide) ?_
        refine lv_icmp_le (tgt := 137) hx hb dX6_stepOverNumber_129 (by decide) (fun c129 => ?_) (fun c129 => ?_)
        · have h := sat_t c129 h
          refine lv_iconst (v := (-1)) hx hb dX6_stepOverNumber_137 (by decide) ?_
          refine pf_X6_43 (ws' := [(a0, .inr (6, [.ref a1, .ref a3, .ref a4, .int it, .int (-1), .int nu_2, .int pl, .int nx_3])), (a1, .inr (9, [.ref a2, .int tn])), (a2, .inl (cI, 120, .inl tx))]) hx hb hown hk w 0 rfl (Nat.le_of_ble_eq_true rfl) rfl dX6_stepOverNumber_138 (fun H locs w => ?_)
          have hR := hC0 _ (sat_some h)
          subst hR
          exact hret _ _ _ _ w dX6_stepOverNumber_141
        · have h := sat_f c129 h
          refine lv_bipush (v := (-2)) hx hb dX6_stepOverNumber_132 (by decide) ?_
          refine lv_goto (tgt := 138) hx hb dX6_stepOverNumber_134 (by decide) ?_
          refine pf_X6_43 (ws' := [(a0, .inr (6, [.ref a1, .ref a3, .ref a4, .int it, .int (-2), .int nu_2, .int pl, .int nx_3])), (a1, .inr (9, [.ref a2, .int tn])), (a2, .inl (cI, 120, .inl tx))]) hx hb hown hk w 0 rfl (Nat.le_of_ble_eq_true rfl) rfl dX6_stepOverNumber_138 (fun H locs w => ?_)
          have hR := hC0 _ (sat_some h)
          subst hR
          exact hret _ _ _ _ w dX6_stepOverNumber_141
    refine lv_icmp_ne (tgt := 116) hx hb dX6_stepOverNumber_96 (by decide) (fun c96 => ?_) (fun c96 => ?_)
    · have h := sat_f c96 h
      refine lv_iconst (v := 0) hx hb dX6_stepOverNumber_116 (by decide) ?_
      exact J96 0 _ _ _ (sat_some h) w (lv_sub hl [0] rfl)
    · have h := sat_t c96 h
      refine lv_aload_n hx hb dX6_stepOverNumber_99 rfl (lv_at hl 0 rfl) ?_
      refine gf_X6_37 hx hb hown hk w.1 0 rfl rfl dX6_stepOverNumber_100 ?_
      refine lv_aload_n hx hb dX6_stepOverNumber_103 rfl (lv_at hl 0 rfl) ?_
      refine gf_X6_53 hx hb hown hk w.1 0 rfl rfl dX6_stepOverNumber_104 ?_
      refine lv_iconst (v := 1) hx hb dX6_stepOverNumber_107 (by decide) ?_
      refine lv_iadd hx hb dX6_stepOverNumber_108 ?_
      refine lv_icmp_le (tgt := 116) hx hb dX6_stepOverNumber_109 (by decide) (fun c109 => ?_) (fun c109 => ?_)
      · have h := sat_t c109 h
        refine lv_iconst (v := 0) hx hb dX6_stepOverNumber_116 (by decide) ?_
        exact J96 0 _ _ _ (sat_some h) w (lv_sub hl [0] rfl)
      · have h := sat_f c109 h
        refine lv_iconst (v := 1) hx hb dX6_stepOverNumber_112 (by decide) ?_
        refine lv_goto (tgt := 117) hx hb dX6_stepOverNumber_113 (by decide) ?_
        exact J96 1 _ _ _ (sat_some h) w (lv_sub hl [0] rfl)
  have L5 : ∀ (n : Nat) (nu_5 : Int32) (nx_5 : Int32) (H : Heap) (locs : List Loc) (ls : Array Slot), sat (f_X6_stepOverNumber_L5 tx tn n nu_5 nx_5) T5 → wd D A s.heap H locs [(a0, .inr (6, [.ref a1, .ref a3, .ref a4, .int it, .int kd, .int nu_5, .int pl, .int nx_5])), (a1, .inr (9, [.ref a2, .int tn])), (a2, .inl (cI, 120, .inl tx))] → lv_has ls 2 [(0, .ref a0)] → W p l e rm_X6_stepOverNumber s m args below meth c H locs 0 0 Q (F0 m 5 ls []) := by
    intro n
    induction n with
    | zero =>
      intro nu_5 nx_5 H locs ls h
      rw [f_X6_stepOverNumber_L5] at h
      exact (sat_none h).elim
    | succ n ih =>
      intro nu_5 nx_5 H locs ls h w hl
      rw [f_X6_stepOverNumber_L5] at h
      refine lv_aload_n hx hb dX6_stepOverNumber_5 rfl (lv_at hl 0 rfl) ?_
      refine gf_X6_37 hx hb hown hk w.1 0 rfl rfl dX6_stepOverNumber_6 ?_
      refine lv_aload_n hx hb dX6_stepOverNumber_9 rfl (lv_at hl 0 rfl) ?_
      refine gf_X6_25 hx hb hown hk w.1 0 rfl rfl dX6_stepOverNumber_10 ?_
      refine gf_X6_109 hx hb hown hk w.1 1 rfl rfl dX6_stepOverNumber_13 ?_
      refine lv_icmp_ge (tgt := 82) hx hb dX6_stepOverNumber_16 (by decide) (fun c16 => ?_) (fun c16 => ?_)
      · have h := sat_t c16 h
        exact E5 nu_5 nx_5 _ _ _ (sat_some h) w (lv_sub hl [0] rfl)
      · have h := sat_f c16 h
        refine lv_aload_n hx hb dX6_stepOverNumber_19 rfl (lv_at hl 0 rfl) ?_
        refine gf_X6_25 hx hb hown hk w.1 0 rfl rfl dX6_stepOverNumber_20 ?_
        refine gf_X6_114 hx hb hown hk w.1 1 rfl rfl dX6_stepOverNumber_23 ?_
        refine lv_aload_n hx hb dX6_stepOverNumber_26 rfl (lv_at hl 0 rfl) ?_
        refine gf_X6_37 hx hb hown hk w.1 0 rfl rfl dX6_stepOverNumber_27 ?_
        obtain ⟨hi, h⟩ := sat_in h
        refine va_iald hx hb hk.1 w.1 2 0 rfl rfl hi dX6_stepOverNumber_30 ?_
        obtain ⟨r_1, e_1, h⟩ := sat_bind h
        refine cRS (rest := []) hx hb hml hown hk (k_X6_isDigit l D cI cZ cK (tx nx_5.toNatClampNeg) r_1 e_1) (me_X6_isDigit hk.2.1) (ms_X6_isDigit hk.2.1) (ml_X6_118 hk.2.1) (w.1.sub [] rfl) hl.1 rfl rfl (Nat.le_of_ble_eq_true rfl) ⟨rfl, rfl, Nat.le_of_ble_eq_true rfl, Nat.le_of_ble_eq_true rfl, Nat.zero_le _, Nat.zero_le _⟩ dX6_stepOverNumber_31 ?_
        refine lv_if_eq (tgt := 82) hx hb dX6_stepOverNumber_34 (by decide) (fun c34 => ?_) (fun c34 => ?_)
        · have h := sat_t c34 h
          exact E5 nu_5 nx_5 _ _ _ (sat_some h) w (lv_sub hl [0] rfl)
        · have h := sat_f c34 h
          refine lv_aload_n hx hb dX6_stepOverNumber_37 rfl (lv_at hl 0 rfl) ?_
          refine lv_aload_n hx hb dX6_stepOverNumber_38 rfl (lv_at hl 0 rfl) ?_
          refine gf_X6_73 hx hb hown hk w.1 0 rfl rfl dX6_stepOverNumber_39 ?_
          refine lv_bipush (v := 10) hx hb dX6_stepOverNumber_42 (by decide) ?_
          refine lv_imul hx hb dX6_stepOverNumber_44 ?_
          refine lv_aload_n hx hb dX6_stepOverNumber_45 rfl (lv_at hl 0 rfl) ?_
          refine gf_X6_25 hx hb hown hk w.1 0 rfl rfl dX6_stepOverNumber_46 ?_
          refine gf_X6_114 hx hb hown hk w.1 1 rfl rfl dX6_stepOverNumber_49 ?_
          refine lv_aload_n hx hb dX6_stepOverNumber_52 rfl (lv_at hl 0 rfl) ?_
          refine gf_X6_37 hx hb hown hk w.1 0 rfl rfl dX6_stepOverNumber_53 ?_
          obtain ⟨hi, h⟩ := sat_in h
          refine va_iald hx hb hk.1 w.1 2 0 rfl rfl hi dX6_stepOverNumber_56 ?_
          refine lv_iadd hx hb dX6_stepOverNumber_57 ?_
          refine lv_bipush (v := 48) hx hb dX6_stepOverNumber_58 (by decide) ?_
          refine lv_isub hx hb dX6_stepOverNumber_60 ?_
          refine lv_bipush (v := 100) hx hb dX6_stepOverNumber_61 (by decide) ?_
          refine mm_X6_124 hx hb hml hl.1 hown hk ⟨Nat.le_of_ble_eq_true rfl, Nat.le_of_ble_eq_true rfl, Nat.zero_le _, Nat.zero_le _⟩ rfl dX6_stepOverNumber_63 ?_
          refine pf_X6_73 (ws' := [(a0, .inr (6, [.ref a1, .ref a3, .ref a4, .int it, .int kd, .int (if 100 < (((nu_5 * 10) + (tx nx_5.toNatClampNeg)) - 48) then 100 else ((nu_5 * 10) + (tx nx_5.toNatClampNeg)) - 48), .int pl, .int nx_5])), (a1, .inr (9, [.ref a2, .int tn])), (a2, .inl (cI, 120, .inl tx))]) hx hb hown hk w 0 rfl (Nat.le_of_ble_eq_true rfl) rfl dX6_stepOverNumber_66 (fun H locs w => ?_)
          refine lv_aload_n hx hb dX6_stepOverNumber_69 rfl (lv_at hl 0 rfl) ?_
          refine lv_dup hx hb dX6_stepOverNumber_70 rfl ?_
          refine gf_X6_37 hx hb hown hk w.1 0 rfl rfl dX6_stepOverNumber_71 ?_
          refine lv_iconst (v := 1) hx hb dX6_stepOverNumber_74 (by decide) ?_
          refine lv_iadd hx hb dX6_stepOverNumber_75 ?_
          refine pf_X6_37 (ws' := [(a0, .inr (6, [.ref a1, .ref a3, .ref a4, .int it, .int kd, .int (if 100 < (((nu_5 * 10) + (tx nx_5.toNatClampNeg)) - 48) then 100 else ((nu_5 * 10) + (tx nx_5.toNatClampNeg)) - 48), .int pl, .int (nx_5 + 1)])), (a1, .inr (9, [.ref a2, .int tn])), (a2, .inl (cI, 120, .inl tx))]) hx hb hown hk w 0 rfl (Nat.le_of_ble_eq_true rfl) rfl dX6_stepOverNumber_76 (fun H locs w => ?_)
          refine lv_goto (tgt := 5) hx hb dX6_stepOverNumber_79 (by decide) ?_
          exact ih (if 100 < (((nu_5 * 10) + (tx nx_5.toNatClampNeg)) - 48) then 100 else ((nu_5 * 10) + (tx nx_5.toNatClampNeg)) - 48) (nx_5 + 1) _ _ _ h w (lv_sub hl [0] rfl)
  exact L5 N 0 nx _ _ _ h w (lv_sub hl [0] rfl)
def f_X6_step_L0 (tx : ar) (tn : Int32) : Nat → Int32 → Option (Int32)
  | 0, _ => none
  | n + 1, nx_0 => if tn ≤ nx_0 then some nx_0 else ck (inb nx_0 120) (if (tx nx_0.toNatClampNeg) = 32 then f_X6_step_L0 tx tn n (nx_0 + 1) else some nx_0)
def f_X6_step (N : Nat) (tx : ar) (tn : Int32) (nu : Int32) (nx : Int32) : Option (Int32 × Int32 × Int32 × Int32) := Option.bind (f_X6_step_L0 tx tn N nx) fun s0 => if s0 < tn then ck (inb s0 120) (Option.bind (f_X6_isDigit (tx s0.toNatClampNeg)) fun r_2 => if (b2i r_2) = 0 then ck (inb s0 120) (some (tx s0.toNatClampNeg, nu, s0, s0 + 1)) else Option.bind (f_X6_stepOverNumber N tx tn s0 s0) fun r_3 => some (r_3.1, r_3.2.1, s0, r_3.2.2)) else some ((-3), nu, s0, s0)
abbrev rm_X6_step : Room := { frames := 2, cells := 0, slots := 0, locals := 41 }
set_option maxRecDepth 100000 in
set_option maxHeartbeats 4000000 in
theorem k_X6_step (l : Launch) (D : va_G) (cI cZ cK : ClassId) (N : Nat) (a0 a1 a3 a4 a2 : Nat) (it : Int32) (kd : Int32) (nu : Int32) (pl : Int32) (nx : Int32) (tn : Int32) (tx : ar) (R : Int32 × Int32 × Int32 × Int32) (h : f_X6_step N tx tn nu nx = some R) : Mu l D cI cZ cK yX6_step cX6_step 1 none rm_X6_step [.ref a0] [(a0, .inr (6, [.ref a1, .ref a3, .ref a4, .int it, .int kd, .int nu, .int pl, .int nx])), (a1, .inr (9, [.ref a2, .int tn])), (a2, .inl (cI, 120, .inl tx))] none [(a0, .inr (6, [.ref a1, .ref a3, .ref a4, .int it, .int R.1, .int R.2.1, .int R.2.2.1, .int R.2.2.2])), (a1, .inr (9, [.ref a2, .int tn])), (a2, .inl (cI, 120, .inl tx))] := by
  refine mv_of (by decide) (Nat.le_of_ble_eq_true rfl) ?_
  intro p e s m args below meth c Q A ls hx hb hml hown hk hA w hret hl
  have hl : lv_has ls 1 [(0, .ref a0)] := hl
  obtain ⟨C0, hC0, h⟩ := sat_top h
  unfold f_X6_step at h
  obtain ⟨T0, hT0, h⟩ := sat_reg h
  have E0 : ∀ (nx_1 : Int32) (H : Heap) (locs : List Loc) (ls : Array Slot), T0 nx_1 → wd D A s.heap H locs [(a0, .inr (6, [.ref a1, .ref a3, .ref a4, .int it, .int kd, .int nu, .int pl, .int nx_1])), (a1, .inr (9, [.ref a2, .int tn])), (a2, .inl (cI, 120, .inl tx))] → lv_has ls 1 [(0, .ref a0)] → W p l e rm_X6_step s m args below meth c H locs 0 0 Q (F0 m 44 ls []) := by
    intro nx_1 H locs ls h w hl
    have h := hT0 _ h
    refine lv_aload_n hx hb dX6_step_44 rfl (lv_at hl 0 rfl) ?_
    refine lv_aload_n hx hb dX6_step_45 rfl (lv_at hl 0 rfl) ?_
    refine gf_X6_37 hx hb hown hk w.1 0 rfl rfl dX6_step_46 ?_
    refine pf_X6_53 (ws' := [(a0, .inr (6, [.ref a1, .ref a3, .ref a4, .int it, .int kd, .int nu, .int nx_1, .int nx_1])), (a1, .inr (9, [.ref a2, .int tn])), (a2, .inl (cI, 120, .inl tx))]) hx hb hown hk w 0 rfl (Nat.le_of_ble_eq_true rfl) rfl dX6_step_49 (fun H locs w => ?_)
    refine lv_aload_n hx hb dX6_step_52 rfl (lv_at hl 0 rfl) ?_
    refine gf_X6_37 hx hb hown hk w.1 0 rfl rfl dX6_step_53 ?_
    refine lv_aload_n hx hb dX6_step_56 rfl (lv_at hl 0 rfl) ?_
    refine gf_X6_25 hx hb hown hk w.1 0 rfl rfl dX6_step_57 ?_
    refine gf_X6_109 hx hb hown hk w.1 1 rfl rfl dX6_step_60 ?_
    refine lv_icmp_lt (tgt := 75) hx hb dX6_step_63 (by decide) (fun c63 => ?_) (fun c63 => ?_)
    · have h := sat_t c63 h
      refine lv_aload_n hx hb dX6_step_75 rfl (lv_at hl 0 rfl) ?_
      refine gf_X6_25 hx hb hown hk w.1 0 rfl rfl dX6_step_76 ?_
      refine gf_X6_114 hx hb hown hk w.1 1 rfl rfl dX6_step_79 ?_
      refine lv_aload_n hx hb dX6_step_82 rfl (lv_at hl 0 rfl) ?_
      refine gf_X6_37 hx hb hown hk w.1 0 rfl rfl dX6_step_83 ?_
      obtain ⟨hi, h⟩ := sat_in h
      refine va_iald hx hb hk.1 w.1 2 0 rfl rfl hi dX6_step_86 ?_
      obtain ⟨r_2, e_2, h⟩ := sat_bind h
      refine cRS (rest := []) hx hb hml hown hk (k_X6_isDigit l D cI cZ cK (tx nx_1.toNatClampNeg) r_2 e_2) (me_X6_isDigit hk.2.1) (ms_X6_isDigit hk.2.1) (ml_X6_118 hk.2.1) (w.1.sub [] rfl) hl.1 rfl rfl (Nat.le_of_ble_eq_true rfl) ⟨rfl, rfl, Nat.le_of_ble_eq_true rfl, Nat.le_of_ble_eq_true rfl, Nat.zero_le _, Nat.zero_le _⟩ dX6_step_87 ?_
      refine lv_if_eq (tgt := 100) hx hb dX6_step_90 (by decide) (fun c90 => ?_) (fun c90 => ?_)
      · have h := sat_t c90 h
        refine lv_aload_n hx hb dX6_step_100 rfl (lv_at hl 0 rfl) ?_
        refine lv_aload_n hx hb dX6_step_101 rfl (lv_at hl 0 rfl) ?_
        refine gf_X6_25 hx hb hown hk w.1 0 rfl rfl dX6_step_102 ?_
        refine gf_X6_114 hx hb hown hk w.1 1 rfl rfl dX6_step_105 ?_
        refine lv_aload_n hx hb dX6_step_108 rfl (lv_at hl 0 rfl) ?_
        refine gf_X6_37 hx hb hown hk w.1 0 rfl rfl dX6_step_109 ?_
        obtain ⟨hi, h⟩ := sat_in h
        refine va_iald hx hb hk.1 w.1 2 0 rfl rfl hi dX6_step_112 ?_
        refine pf_X6_43 (ws' := [(a0, .inr (6, [.ref a1, .ref a3, .ref a4, .int it, .int (tx nx_1.toNatClampNeg), .int nu, .int nx_1, .int nx_1])), (a1, .inr (9, [.ref a2, .int tn])), (a2, .inl (cI, 120, .inl tx))]) hx hb hown hk w 0 rfl (Nat.le_of_ble_eq_true rfl) rfl dX6_step_113 (fun H locs w => ?_)
        refine lv_aload_n hx hb dX6_step_116 rfl (lv_at hl 0 rfl) ?_
        refine lv_dup hx hb dX6_step_117 rfl ?_
        refine gf_X6_37 hx hb hown hk w.1 0 rfl rfl dX6_step_118 ?_
        refine lv_iconst (v := 1) hx hb dX6_step_121 (by decide) ?_
        refine lv_iadd hx hb dX6_step_122 ?_
        refine pf_X6_37 (ws' := [(a0, .inr (6, [.ref a1, .ref a3, .ref a4, .int it, .int (tx nx_1.toNatClampNeg), .int nu, .int nx_1, .int (nx_1 + 1)])), (a1, .inr (9, [.ref a2, .int tn])), (a2, .inl (cI, 120, .inl tx))]) hx hb hown hk w 0 rfl (Nat.le_of_ble_eq_true rfl) rfl dX6_step_123 (fun H locs w => ?_)
        have hR := hC0 _ (sat_some h)
        subst hR
        exact hret _ _ _ _ w dX6_step_126
      · have h := sat_f c90 h
        refine lv_aload_n hx hb dX6_step_93 rfl (lv_at hl 0 rfl) ?_
        obtain ⟨r_3, e_3, h⟩ := sat_bind h
        refine cMV (rest := []) (wr := []) (ws' := [(a0, .inr (6, [.ref a1, .ref a3, .ref a4, .int it, .int r_3.1, .int r_3.2.1, .int nx_1, .int r_3.2.2])), (a1, .inr (9, [.ref a2, .int tn])), (a2, .inl (cI, 120, .inl tx))]) hx hb hml hown hk w hA (k_X6_stepOverNumber l D cI cZ cK N a0 a1 a3 a4 a2 it kd nu nx_1 nx_1 tn tx r_3 e_3) (me_X6_stepOverNumber hk.2.1) (mi_X6_stepOverNumber hk.2.1) (ml_X6_121 hk.2.1) ((pmn 3 [0, 1, 2] rfl rfl (by decide))) ((pmn 3 [0, 1, 2] rfl rfl (by decide))) 0 rfl rfl rfl hl.1 rfl rfl (Nat.le_of_ble_eq_true rfl) ⟨rfl, rfl, Nat.le_of_ble_eq_true rfl, Nat.le_of_ble_eq_true rfl, Nat.zero_le _, Nat.zero_le _⟩ dX6_step_94 (fun H locs w => ?_)
        refine W.eq (g2 := F0 m 97 ls []) rfl ?_
        refine lv_goto (tgt := 126) hx hb dX6_step_97 (by decide) ?_
        have hR := hC0 _ (sat_some h)
        subst hR
        exact hret _ _ _ _ w dX6_step_126
    · have h := sat_f c63 h
      refine lv_aload_n hx hb dX6_step_66 rfl (lv_at hl 0 rfl) ?_
      refine lv_bipush (v := (-3)) hx hb dX6_step_67 (by decide) ?_
      refine pf_X6_43 (ws' := [(a0, .inr (6, [.ref a1, .ref a3, .ref a4, .int it, .int (-3), .int nu, .int nx_1, .int nx_1])), (a1, .inr (9, [.ref a2, .int tn])), (a2, .inl (cI, 120, .inl tx))]) hx hb hown hk w 0 rfl (Nat.le_of_ble_eq_true rfl) rfl dX6_step_69 (fun H locs w => ?_)
      refine lv_goto (tgt := 126) hx hb dX6_step_72 (by decide) ?_
      have hR := hC0 _ (sat_some h)
      subst hR
      exact hret _ _ _ _ w dX6_step_126
  have L0 : ∀ (n : Nat) (nx_0 : Int32) (H : Heap) (locs : List Loc) (ls : Array Slot), sat (f_X6_step_L0 tx tn n nx_0) T0 → wd D A s.heap H locs [(a0, .inr (6, [.ref a1, .ref a3, .ref a4, .int it, .int kd, .int nu, .int pl, .int nx_0])), (a1, .inr (9, [.ref a2, .int tn])), (a2, .inl (cI, 120, .inl tx))] → lv_has ls 1 [(0, .ref a0)] → W p l e rm_X6_step s m args below meth c H locs 0 0 Q (F0 m 0 ls []) := by
    intro n
    induction n with
    | zero =>
      intro nx_0 H locs ls h
      rw [f_X6_step_L0] at h
      exact (sat_none h).elim
    | succ n ih =>
      intro nx_0 H locs ls h w hl
      rw [f_X6_step_L0] at h
      refine lv_aload_n hx hb dX6_step_0 rfl (lv_at hl 0 rfl) ?_
      refine gf_X6_37 hx hb hown hk w.1 0 rfl rfl dX6_step_1 ?_
      refine lv_aload_n hx hb dX6_step_4 rfl (lv_at hl 0 rfl) ?_
      refine gf_X6_25 hx hb hown hk w.1 0 rfl rfl dX6_step_5 ?_
      refine gf_X6_109 hx hb hown hk w.1 1 rfl rfl dX6_step_8 ?_
      refine lv_icmp_ge (tgt := 44) hx hb dX6_step_11 (by decide) (fun c11 => ?_) (fun c11 => ?_)
      · have h := sat_t c11 h
        exact E0 nx_0 _ _ _ (sat_some h) w (lv_sub hl [0] rfl)
      · have h := sat_f c11 h
        refine lv_aload_n hx hb dX6_step_14 rfl (lv_at hl 0 rfl) ?_
        refine gf_X6_25 hx hb hown hk w.1 0 rfl rfl dX6_step_15 ?_
        refine gf_X6_114 hx hb hown hk w.1 1 rfl rfl dX6_step_18 ?_
        refine lv_aload_n hx hb dX6_step_21 rfl (lv_at hl 0 rfl) ?_
        refine gf_X6_37 hx hb hown hk w.1 0 rfl rfl dX6_step_22 ?_
        obtain ⟨hi, h⟩ := sat_in h
        refine va_iald hx hb hk.1 w.1 2 0 rfl rfl hi dX6_step_25 ?_
        refine lv_bipush (v := 32) hx hb dX6_step_26 (by decide) ?_
        refine lv_icmp_ne (tgt := 44) hx hb dX6_step_28 (by decide) (fun c28 => ?_) (fun c28 => ?_)
        · have h := sat_f c28 h
          exact E0 nx_0 _ _ _ (sat_some h) w (lv_sub hl [0] rfl)
        · have h := sat_t c28 h
          refine lv_aload_n hx hb dX6_step_31 rfl (lv_at hl 0 rfl) ?_
          refine lv_dup hx hb dX6_step_32 rfl ?_
          refine gf_X6_37 hx hb hown hk w.1 0 rfl rfl dX6_step_33 ?_
          refine lv_iconst (v := 1) hx hb dX6_step_36 (by decide) ?_
          refine lv_iadd hx hb dX6_step_37 ?_
          refine pf_X6_37 (ws' := [(a0, .inr (6, [.ref a1, .ref a3, .ref a4, .int it, .int kd, .int nu, .int pl, .int (nx_0 + 1)])), (a1, .inr (9, [.ref a2, .int tn])), (a2, .inl (cI, 120, .inl tx))]) hx hb hown hk w 0 rfl (Nat.le_of_ble_eq_true rfl) rfl dX6_step_38 (fun H locs w => ?_)
          refine lv_goto (tgt := 0) hx hb dX6_step_41 (by decide) ?_
          exact ih (nx_0 + 1) _ _ _ h w (lv_sub hl [0] rfl)
  exact L0 N nx _ _ _ h w (lv_sub hl [0] rfl)
def f_X6_readNumber (N : Nat) (tx : ar) (tn : Int32) (nu : Int32) (nx : Int32) (x1 : Int32) (x2 : Int32) : Option (Bool × Int32 × Int32 × Int32 × Int32) := Option.bind (f_X6_step N tx tn nu nx) fun r_1 => if r_1.1 = (-1) then if r_1.2.1 < x1 then some (false, r_1.1, r_1.2.1, r_1.2.2.1, r_1.2.2.2) else if x2 < r_1.2.1 then some (false, r_1.1, r_1.2.1, r_1.2.2.1, r_1.2.2.2) else some (true, r_1.1, r_1.2.1, r_1.2.2.1, r_1.2.2.2) else some (false, r_1.1, r_1.2.1, r_1.2.2.1, r_1.2.2.2)
abbrev rm_X6_readNumber : Room := { frames := 3, cells := 0, slots := 0, locals := 61 }
set_option maxRecDepth 100000 in
set_option maxHeartbeats 4000000 in
theorem k_X6_readNumber (l : Launch) (D : va_G) (cI cZ cK : ClassId) (N : Nat) (a0 a1 a3 a4 a2 : Nat) (it : Int32) (kd : Int32) (nu : Int32) (pl : Int32) (nx : Int32) (tn : Int32) (tx : ar) (x1 : Int32) (x2 : Int32) (R : Bool × Int32 × Int32 × Int32 × Int32) (h : f_X6_readNumber N tx tn nu nx x1 x2 = some R) : Mu l D cI cZ cK yX6_readNumber cX6_readNumber 3 (some .boolean) rm_X6_readNumber [.ref a0, .int x1, .int x2] [(a0, .inr (6, [.ref a1, .ref a3, .ref a4, .int it, .int kd, .int nu, .int pl, .int nx])), (a1, .inr (9, [.ref a2, .int tn])), (a2, .inl (cI, 120, .inl tx))] (some (.int (b2i R.1))) [(a0, .inr (6, [.ref a1, .ref a3, .ref a4, .int it, .int R.2.1, .int R.2.2.1, .int R.2.2.2.1, .int R.2.2.2.2])), (a1, .inr (9, [.ref a2, .int tn])), (a2, .inl (cI, 120, .inl tx))] := by
  refine mi_of (by decide) (nar_b _) (Nat.le_of_ble_eq_true rfl) ?_
  intro p e s m args below meth c Q A ls hx hb hml hown hk hA w hret hl
  have hl : lv_has ls 3 [(0, .ref a0), (1, .int x1), (2, .int x2)] := hl
  obtain ⟨C0, hC0, h⟩ := sat_top h
  unfold f_X6_readNumber at h
  refine lv_aload_n hx hb dX6_readNumber_0 rfl (lv_at hl 0 rfl) ?_
  obtain ⟨r_1, e_1, h⟩ := sat_bind h
  refine cMV (rest := []) (wr := []) (ws' := [(a0, .inr (6, [.ref a1, .ref a3, .ref a4, .int it, .int r_1.1, .int r_1.2.1, .int r_1.2.2.1, .int r_1.2.2.2])), (a1, .inr (9, [.ref a2, .int tn])), (a2, .inl (cI, 120, .inl tx))]) hx hb hml hown hk w hA (k_X6_step l D cI cZ cK N a0 a1 a3 a4 a2 it kd nu pl nx tn tx r_1 e_1) (me_X6_step hk.2.1) (mi_X6_step hk.2.1) (ml_X6_40 hk.2.1) ((pmn 3 [0, 1, 2] rfl rfl (by decide))) ((pmn 3 [0, 1, 2] rfl rfl (by decide))) 0 rfl rfl rfl hl.1 rfl rfl (Nat.le_of_ble_eq_true rfl) ⟨rfl, rfl, Nat.le_of_ble_eq_true rfl, Nat.le_of_ble_eq_true rfl, Nat.zero_le _, Nat.zero_le _⟩ dX6_readNumber_1 (fun H locs w => ?_)
  refine W.eq (g2 := F0 m 4 ls []) rfl ?_
  refine lv_aload_n hx hb dX6_readNumber_4 rfl (lv_at hl 0 rfl) ?_
  refine gf_X6_43 hx hb hown hk w.1 0 rfl rfl dX6_readNumber_5 ?_
  refine lv_iconst (v := (-1)) hx hb dX6_readNumber_8 (by decide) ?_
  refine lv_icmp_ne (tgt := 32) hx hb dX6_readNumber_9 (by decide) (fun c9 => ?_) (fun c9 => ?_)
  · have h := sat_f c9 h
    refine lv_iconst (v := 0) hx hb dX6_readNumber_32 (by decide) ?_
    have hR := hC0 _ (sat_some h)
    subst hR
    exact hret _ _ _ _ w dX6_readNumber_33
  · have h := sat_t c9 h
    refine lv_aload_n hx hb dX6_readNumber_12 rfl (lv_at hl 0 rfl) ?_
    refine gf_X6_73 hx hb hown hk w.1 0 rfl rfl dX6_readNumber_13 ?_
    refine lv_iload_n hx hb dX6_readNumber_16 rfl (lv_at hl 1 rfl) ?_
    refine lv_icmp_lt (tgt := 32) hx hb dX6_readNumber_17 (by decide) (fun c17 => ?_) (fun c17 => ?_)
    · have h := sat_t c17 h
      refine lv_iconst (v := 0) hx hb dX6_readNumber_32 (by decide) ?_
      have hR := hC0 _ (sat_some h)
      subst hR
      exact hret _ _ _ _ w dX6_readNumber_33
    · have h := sat_f c17 h
      refine lv_aload_n hx hb dX6_readNumber_20 rfl (lv_at hl 0 rfl) ?_
      refine gf_X6_73 hx hb hown hk w.1 0 rfl rfl dX6_readNumber_21 ?_
      refine lv_iload_n hx hb dX6_readNumber_24 rfl (lv_at hl 2 rfl) ?_
      refine lv_icmp_gt (tgt := 32) hx hb dX6_readNumber_25 (by decide) (fun c25 => ?_) (fun c25 => ?_)
      · have h := sat_t c25 h
        refine lv_iconst (v := 0) hx hb dX6_readNumber_32 (by decide) ?_
        have hR := hC0 _ (sat_some h)
        subst hR
        exact hret _ _ _ _ w dX6_readNumber_33
      · have h := sat_f c25 h
        refine lv_iconst (v := 1) hx hb dX6_readNumber_28 (by decide) ?_
        refine lv_goto (tgt := 33) hx hb dX6_readNumber_29 (by decide) ?_
        have hR := hC0 _ (sat_some h)
        subst hR
        exact hret _ _ _ _ w dX6_readNumber_33
def f_X6_readEnd (N : Nat) (tx : ar) (tn : Int32) (nu : Int32) (nx : Int32) : Option (Bool × Int32 × Int32 × Int32 × Int32) := Option.bind (f_X6_step N tx tn nu nx) fun r_1 => if r_1.1 = 59 then some (true, r_1.1, r_1.2.1, r_1.2.2.1, r_1.2.2.2) else some (false, r_1.1, r_1.2.1, r_1.2.2.1, r_1.2.2.2)
abbrev rm_X6_readEnd : Room := { frames := 3, cells := 0, slots := 0, locals := 61 }
set_option maxRecDepth 100000 in
set_option maxHeartbeats 4000000 in
theorem k_X6_readEnd (l : Launch) (D : va_G) (cI cZ cK : ClassId) (N : Nat) (a0 a1 a3 a4 a2 : Nat) (it : Int32) (kd : Int32) (nu : Int32) (pl : Int32) (nx : Int32) (tn : Int32) (tx : ar) (R : Bool × Int32 × Int32 × Int32 × Int32) (h : f_X6_readEnd N tx tn nu nx = some R) : Mu l D cI cZ cK yX6_readEnd cX6_readEnd 1 (some .boolean) rm_X6_readEnd [.ref a0] [(a0, .inr (6, [.ref a1, .ref a3, .ref a4, .int it, .int kd, .int nu, .int pl, .int nx])), (a1, .inr (9, [.ref a2, .int tn])), (a2, .inl (cI, 120, .inl tx))] (some (.int (b2i R.1))) [(a0, .inr (6, [.ref a1, .ref a3, .ref a4, .int it, .int R.2.1, .int R.2.2.1, .int R.2.2.2.1, .int R.2.2.2.2])), (a1, .inr (9, [.ref a2, .int tn])), (a2, .inl (cI, 120, .inl tx))] := by
  refine mi_of (by decide) (nar_b _) (Nat.le_of_ble_eq_true rfl) ?_
  intro p e s m args below meth c Q A ls hx hb hml hown hk hA w hret hl
  have hl : lv_has ls 1 [(0, .ref a0)] := hl
  obtain ⟨C0, hC0, h⟩ := sat_top h
  unfold f_X6_readEnd at h
  refine lv_aload_n hx hb dX6_readEnd_0 rfl (lv_at hl 0 rfl) ?_
  obtain ⟨r_1, e_1, h⟩ := sat_bind h
  refine cMV (rest := []) (wr := []) (ws' := [(a0, .inr (6, [.ref a1, .ref a3, .ref a4, .int it, .int r_1.1, .int r_1.2.1, .int r_1.2.2.1, .int r_1.2.2.2])), (a1, .inr (9, [.ref a2, .int tn])), (a2, .inl (cI, 120, .inl tx))]) hx hb hml hown hk w hA (k_X6_step l D cI cZ cK N a0 a1 a3 a4 a2 it kd nu pl nx tn tx r_1 e_1) (me_X6_step hk.2.1) (mi_X6_step hk.2.1) (ml_X6_40 hk.2.1) ((pmn 3 [0, 1, 2] rfl rfl (by decide))) ((pmn 3 [0, 1, 2] rfl rfl (by decide))) 0 rfl rfl rfl hl.1 rfl rfl (Nat.le_of_ble_eq_true rfl) ⟨rfl, rfl, Nat.le_of_ble_eq_true rfl, Nat.le_of_ble_eq_true rfl, Nat.zero_le _, Nat.zero_le _⟩ dX6_readEnd_1 (fun H locs w => ?_)
  refine W.eq (g2 := F0 m 4 ls []) rfl ?_
  refine lv_aload_n hx hb dX6_readEnd_4 rfl (lv_at hl 0 rfl) ?_
  refine gf_X6_43 hx hb hown hk w.1 0 rfl rfl dX6_readEnd_5 ?_
  refine lv_bipush (v := 59) hx hb dX6_readEnd_8 (by decide) ?_
  refine lv_icmp_ne (tgt := 17) hx hb dX6_readEnd_10 (by decide) (fun c10 => ?_) (fun c10 => ?_)
  · have h := sat_f c10 h
    refine lv_iconst (v := 0) hx hb dX6_readEnd_17 (by decide) ?_
    have hR := hC0 _ (sat_some h)
    subst hR
    exact hret _ _ _ _ w dX6_readEnd_18
  · have h := sat_t c10 h
    refine lv_iconst (v := 1) hx hb dX6_readEnd_13 (by decide) ?_
    refine lv_goto (tgt := 18) hx hb dX6_readEnd_14 (by decide) ?_
    have hR := hC0 _ (sat_some h)
    subst hR
    exact hret _ _ _ _ w dX6_readEnd_18
def f_X6_lowestOf (x0 : Int32) : Option (Int32) := if x0 = 97 then some 1 else if x0 = 108 then some 1 else some 0
abbrev rm_X6_lowestOf : Room := { frames := 0, cells := 0, slots := 0, locals := 0 }
set_option maxRecDepth 100000 in
set_option maxHeartbeats 4000000 in
theorem k_X6_lowestOf (l : Launch) (D : va_G) (cI cZ cK : ClassId) (x0 : Int32) (R : Int32) (h : f_X6_lowestOf x0 = some R) : Rd l D cI cZ cK yX6_lowestOf cX6_lowestOf 1 (some .int) rm_X6_lowestOf [.int x0] [] R := by
  refine rd_of (by decide) (vp_nar_int _) (Nat.le_of_ble_eq_true rfl) ?_
  intro p e s m args below meth c Q ls hx hb hml hown hk hP hret hl
  have hl : lv_has ls 1 [(0, .int x0)] := hl
  obtain ⟨C0, hC0, h⟩ := sat_top h
  unfold f_X6_lowestOf at h
  refine lv_iload_n hx hb dX6_lowestOf_0 rfl (lv_at hl 0 rfl) ?_
  refine lv_bipush (v := 97) hx hb dX6_lowestOf_1 (by decide) ?_
  refine lv_icmp_eq (tgt := 12) hx hb dX6_lowestOf_3 (by decide) (fun c3 => ?_) (fun c3 => ?_)
  · have h := sat_t c3 h
    refine lv_iconst (v := 1) hx hb dX6_lowestOf_12 (by decide) ?_
    refine lv_goto (tgt := 17) hx hb dX6_lowestOf_13 (by decide) ?_
    have hR := hC0 _ (sat_some h)
    subst hR
    exact hret _ _ dX6_lowestOf_17
  · have h := sat_f c3 h
    refine lv_iload_n hx hb dX6_lowestOf_6 rfl (lv_at hl 0 rfl) ?_
    refine lv_bipush (v := 108) hx hb dX6_lowestOf_7 (by decide) ?_
    refine lv_icmp_ne (tgt := 16) hx hb dX6_lowestOf_9 (by decide) (fun c9 => ?_) (fun c9 => ?_)
    · have h := sat_f c9 h
      refine lv_iconst (v := 0) hx hb dX6_lowestOf_16 (by decide) ?_
      have hR := hC0 _ (sat_some h)
      subst hR
      exact hret _ _ dX6_lowestOf_17
    · have h := sat_t c9 h
      refine lv_iconst (v := 1) hx hb dX6_lowestOf_12 (by decide) ?_
      refine lv_goto (tgt := 17) hx hb dX6_lowestOf_13 (by decide) ?_
      have hR := hC0 _ (sat_some h)
      subst hR
      exact hret _ _ dX6_lowestOf_17
def f_X6_highestOf (x0 : Int32) : Option (Int32) := if x0 = 120 then some 9 else if x0 = 104 then some 3 else some 99
abbrev rm_X6_highestOf : Room := { frames := 0, cells := 0, slots := 0, locals := 0 }
set_option maxRecDepth 100000 in
set_option maxHeartbeats 4000000 in
theorem k_X6_highestOf (l : Launch) (D : va_G) (cI cZ cK : ClassId) (x0 : Int32) (R : Int32) (h : f_X6_highestOf x0 = some R) : Rd l D cI cZ cK yX6_highestOf cX6_highestOf 1 (some .int) rm_X6_highestOf [.int x0] [] R := by
  refine rd_of (by decide) (vp_nar_int _) (Nat.le_of_ble_eq_true rfl) ?_
  intro p e s m args below meth c Q ls hx hb hml hown hk hP hret hl
  have hl : lv_has ls 1 [(0, .int x0)] := hl
  obtain ⟨C0, hC0, h⟩ := sat_top h
  unfold f_X6_highestOf at h
  refine lv_iload_n hx hb dX6_highestOf_0 rfl (lv_at hl 0 rfl) ?_
  refine lv_bipush (v := 120) hx hb dX6_highestOf_1 (by decide) ?_
  refine lv_icmp_ne (tgt := 9) hx hb dX6_highestOf_3 (by decide) (fun c3 => ?_) (fun c3 => ?_)
  · have h := sat_f c3 h
    refine lv_iload_n hx hb dX6_highestOf_9 rfl (lv_at hl 0 rfl) ?_
    refine lv_bipush (v := 104) hx hb dX6_highestOf_10 (by decide) ?_
    refine lv_icmp_ne (tgt := 19) hx hb dX6_highestOf_12 (by decide) (fun c12 => ?_) (fun c12 => ?_)
    · have h := sat_f c12 h
      refine lv_bipush (v := 99) hx hb dX6_highestOf_19 (by decide) ?_
      have hR := hC0 _ (sat_some h)
      subst hR
      exact hret _ _ dX6_highestOf_21
    · have h := sat_t c12 h
      refine lv_iconst (v := 3) hx hb dX6_highestOf_15 (by decide) ?_
      refine lv_goto (tgt := 21) hx hb dX6_highestOf_16 (by decide) ?_
      have hR := hC0 _ (sat_some h)
      subst hR
      exact hret _ _ dX6_highestOf_21
  · have h := sat_t c3 h
    refine lv_bipush (v := 9) hx hb dX6_highestOf_6 (by decide) ?_
    have hR := hC0 _ (sat_some h)
    subst hR
    exact hret _ _ dX6_highestOf_8
def f_X6_readNodes (N : Nat) (tx : ar) (tn : Int32) (qrn : Int32) (nu : Int32) (nx : Int32) : Option (Bool × Int32 × Int32 × Int32 × Int32 × Int32) := Option.bind (f_X6_readNumber N tx tn nu nx 2 6) fun r_1 => if (b2i r_1.1) = 0 then some (false, r_1.2.1, r_1.2.2.1, r_1.2.2.2.1, r_1.2.2.2.2, qrn) else some (true, r_1.2.1, r_1.2.2.1, r_1.2.2.2.1, r_1.2.2.2.2, r_1.2.2.1)
abbrev rm_X6_readNodes : Room := { frames := 4, cells := 0, slots := 0, locals := 83 }
set_option maxRecDepth 100000 in
set_option maxHeartbeats 4000000 in
theorem k_X6_readNodes (l : Launch) (D : va_G) (cI cZ cK : ClassId) (N : Nat) (a0 a1 a3 a4 a2 : Nat) (it : Int32) (kd : Int32) (nu : Int32) (pl : Int32) (nx : Int32) (tn : Int32) (tx : ar) (qrn : Int32) (qre : Int32) (qrh : Int32) (qra : Int32) (qrl : Int32) (qrf : Int32) (R : Bool × Int32 × Int32 × Int32 × Int32 × Int32) (h : f_X6_readNodes N tx tn qrn nu nx = some R) : Mu l D cI cZ cK yX6_readNodes cX6_readNodes 1 (some .boolean) rm_X6_readNodes [.ref a0] [(a0, .inr (6, [.ref a1, .ref a3, .ref a4, .int it, .int kd, .int nu, .int pl, .int nx])), (a1, .inr (9, [.ref a2, .int tn])), (a2, .inl (cI, 120, .inl tx)), (a3, .inr (7, [.int qrn, .int qre, .int qrh, .int qra, .int qrl, .int qrf]))] (some (.int (b2i R.1))) [(a0, .inr (6, [.ref a1, .ref a3, .ref a4, .int it, .int R.2.1, .int R.2.2.1, .int R.2.2.2.1, .int R.2.2.2.2.1])), (a1, .inr (9, [.ref a2, .int tn])), (a2, .inl (cI, 120, .inl tx)), (a3, .inr (7, [.int R.2.2.2.2.2, .int qre, .int qrh, .int qra, .int qrl, .int qrf]))] := by
  refine mi_of (by decide) (nar_b _) (Nat.le_of_ble_eq_true rfl) ?_
  intro p e s m args below meth c Q A ls hx hb hml hown hk hA w hret hl
  have hl : lv_has ls 1 [(0, .ref a0)] := hl
  obtain ⟨C0, hC0, h⟩ := sat_top h
  unfold f_X6_readNodes at h
  refine lv_aload_n hx hb dX6_readNodes_0 rfl (lv_at hl 0 rfl) ?_
  refine lv_iconst (v := 2) hx hb dX6_readNodes_1 (by decide) ?_
  refine lv_bipush (v := 6) hx hb dX6_readNodes_2 (by decide) ?_
  obtain ⟨r_1, e_1, h⟩ := sat_bind h
  refine cMV (rest := []) (wr := [(a3, .inr (7, [.int qrn, .int qre, .int qrh, .int qra, .int qrl, .int qrf]))]) (ws' := [(a0, .inr (6, [.ref a1, .ref a3, .ref a4, .int it, .int r_1.2.1, .int r_1.2.2.1, .int r_1.2.2.2.1, .int r_1.2.2.2.2])), (a1, .inr (9, [.ref a2, .int tn])), (a2, .inl (cI, 120, .inl tx)), (a3, .inr (7, [.int qrn, .int qre, .int qrh, .int qra, .int qrl, .int qrf]))]) hx hb hml hown hk w hA (k_X6_readNumber l D cI cZ cK N a0 a1 a3 a4 a2 it kd nu pl nx tn tx 2 6 r_1 e_1) (me_X6_readNumber hk.2.1) (mi_X6_readNumber hk.2.1) (ml_X6_69 hk.2.1) ((pmn 4 [0, 1, 2, 3] rfl rfl (by decide))) ((pmn 4 [0, 1, 2, 3] rfl rfl (by decide))) 0 rfl rfl rfl hl.1 rfl rfl (Nat.le_of_ble_eq_true rfl) ⟨rfl, rfl, Nat.le_of_ble_eq_true rfl, Nat.le_of_ble_eq_true rfl, Nat.zero_le _, Nat.zero_le _⟩ dX6_readNodes_4 (fun H locs w => ?_)
  refine W.eq (g2 := F0 m 7 ls [.int (b2i r_1.1)]) rfl ?_
  refine lv_if_ne (tgt := 12) hx hb dX6_readNodes_7 (by decide) (fun c7 => ?_) (fun c7 => ?_)
  · have h := sat_f c7 h
    refine lv_aload_n hx hb dX6_readNodes_12 rfl (lv_at hl 0 rfl) ?_
    refine gf_X6_12 hx hb hown hk w.1 0 rfl rfl dX6_readNodes_13 ?_
    refine lv_aload_n hx hb dX6_readNodes_16 rfl (lv_at hl 0 rfl) ?_
    refine gf_X6_73 hx hb hown hk w.1 0 rfl rfl dX6_readNodes_17 ?_
    refine pf_X6_76 (ws' := [(a0, .inr (6, [.ref a1, .ref a3, .ref a4, .int it, .int r_1.2.1, .int r_1.2.2.1, .int r_1.2.2.2.1, .int r_1.2.2.2.2])), (a1, .inr (9, [.ref a2, .int tn])), (a2, .inl (cI, 120, .inl tx)), (a3, .inr (7, [.int r_1.2.2.1, .int qre, .int qrh, .int qra, .int qrl, .int qrf]))]) hx hb hown hk w 3 rfl (Nat.le_of_ble_eq_true rfl) rfl dX6_readNodes_20 (fun H locs w => ?_)
    refine lv_iconst (v := 1) hx hb dX6_readNodes_23 (by decide) ?_
    have hR := hC0 _ (sat_some h)
    subst hR
    exact hret _ _ _ _ w dX6_readNodes_24
  · have h := sat_t c7 h
    refine lv_iconst (v := 0) hx hb dX6_readNodes_10 (by decide) ?_
    have hR := hC0 _ (sat_some h)
    subst hR
    exact hret _ _ _ _ w dX6_readNodes_11
def f_X6_readLink (N : Nat) (tx : ar) (tn : Int32) (qrn : Int32) (qdl : ar) (qlt : Int32) (nu : Int32) (nx : Int32) : Option (Bool × Int32 × Int32 × Int32 × Int32 × Int32 × ar) := Option.bind (f_X6_readNumber N tx tn nu nx 0 (qrn - 1)) fun r_1 => if (b2i r_1.1) = 0 then some (false, r_1.2.1, r_1.2.2.1, r_1.2.2.2.1, r_1.2.2.2.2, qlt, qdl) else Option.bind (f_X6_readNumber N tx tn r_1.2.2.1 r_1.2.2.2.2 0 (qrn - 1)) fun r_2 => if (b2i r_2.1) = 0 then some (false, r_2.2.1, r_2.2.2.1, r_2.2.2.2.1, r_2.2.2.2.2, qlt, qdl) else if r_2.2.2.1 = r_1.2.2.1 then some (false, r_2.2.1, r_2.2.2.1, r_2.2.2.2.1, r_2.2.2.2.2, qlt, qdl) else Option.bind (f_X3_delayOf qdl r_1.2.2.1 r_2.2.2.1) fun r_3 => if 0 < r_3 then some (false, r_2.2.1, r_2.2.2.1, r_2.2.2.2.1, r_2.2.2.2.2, qlt, qdl) else Option.bind (f_X6_readNumber N tx tn r_2.2.2.1 r_2.2.2.2.2 1 9) fun r_4 => if (b2i r_4.1) = 0 then some (false, r_4.2.1, r_4.2.2.1, r_4.2.2.2.1, r_4.2.2.2.2, qlt, qdl) else Option.bind (f_X3_put qdl qlt r_1.2.2.1 r_2.2.2.1 r_4.2.2.1) fun r_5 => some (true, r_4.2.1, r_4.2.2.1, r_4.2.2.2.1, r_4.2.2.2.2, r_5.1, r_5.2)
abbrev rm_X6_readLink : Room := { frames := 4, cells := 0, slots := 0, locals := 83 }
set_option maxRecDepth 100000 in
set_option maxHeartbeats 4000000 in
theorem k_X6_readLink (l : Launch) (D : va_G) (cI cZ cK : ClassId) (N : Nat) (a0 a1 a3 a4 a2 a5 : Nat) (it : Int32) (kd : Int32) (nu : Int32) (pl : Int32) (nx : Int32) (tn : Int32) (tx : ar) (qrn : Int32) (qre : Int32) (qrh : Int32) (qra : Int32) (qrl : Int32) (qrf : Int32) (qlt : Int32) (qdl : ar) (R : Bool × Int32 × Int32 × Int32 × Int32 × Int32 × ar) (h : f_X6_readLink N tx tn qrn qdl qlt nu nx = some R) : Mu l D cI cZ cK yX6_readLink cX6_readLink 3 (some .boolean) rm_X6_readLink [.ref a0] [(a0, .inr (6, [.ref a1, .ref a3, .ref a4, .int it, .int kd, .int nu, .int pl, .int nx])), (a1, .inr (9, [.ref a2, .int tn])), (a2, .inl (cI, 120, .inl tx)), (a3, .inr (7, [.int qrn, .int qre, .int qrh, .int qra, .int qrl, .int qrf])), (a4, .inr (3, [.ref a5, .int qlt])), (a5, .inl (cI, 36, .inl qdl))] (some (.int (b2i R.1))) [(a0, .inr (6, [.ref a1, .ref a3, .ref a4, .int it, .int R.2.1, .int R.2.2.1, .int R.2.2.2.1, .int R.2.2.2.2.1])), (a1, .inr (9, [.ref a2, .int tn])), (a2, .inl (cI, 120, .inl tx)), (a3, .inr (7, [.int qrn, .int qre, .int qrh, .int qra, .int qrl, .int qrf])), (a4, .inr (3, [.ref a5, .int R.2.2.2.2.2.1])), (a5, .inl (cI, 36, .inl R.2.2.2.2.2.2))] := by
  refine mi_of (by decide) (nar_b _) (Nat.le_of_ble_eq_true rfl) ?_
  intro p e s m args below meth c Q A ls hx hb hml hown hk hA w hret hl
  have hl : lv_has ls 3 [(0, .ref a0)] := hl
  obtain ⟨C0, hC0, h⟩ := sat_top h
  unfold f_X6_readLink at h
  refine lv_aload_n hx hb dX6_readLink_0 rfl (lv_at hl 0 rfl) ?_
  refine lv_iconst (v := 0) hx hb dX6_readLink_1 (by decide) ?_
  refine lv_aload_n hx hb dX6_readLink_2 rfl (lv_at hl 0 rfl) ?_
  refine gf_X6_12 hx hb hown hk w.1 0 rfl rfl dX6_readLink_3 ?_
  refine gf_X6_76 hx hb hown hk w.1 3 rfl rfl dX6_readLink_6 ?_
  refine lv_iconst (v := 1) hx hb dX6_readLink_9 (by decide) ?_
  refine lv_isub hx hb dX6_readLink_10 ?_
  obtain ⟨r_1, e_1, h⟩ := sat_bind h
  refine cMV (rest := []) (wr := [(a3, .inr (7, [.int qrn, .int qre, .int qrh, .int qra, .int qrl, .int qrf])), (a4, .inr (3, [.ref a5, .int qlt])), (a5, .inl (cI, 36, .inl qdl))]) (ws' := [(a0, .inr (6, [.ref a1, .ref a3, .ref a4, .int it, .int r_1.2.1, .int r_1.2.2.1, .int r_1.2.2.2.1, .int r_1.2.2.2.2])), (a1, .inr (9, [.ref a2, .int tn])), (a2, .inl (cI, 120, .inl tx)), (a3, .inr (7, [.int qrn, .int qre, .int qrh, .int qra, .int qrl, .int qrf])), (a4, .inr (3, [.ref a5, .int qlt])), (a5, .inl (cI, 36, .inl qdl))]) hx hb hml hown hk w hA (k_X6_readNumber l D cI cZ cK N a0 a1 a3 a4 a2 it kd nu pl nx tn tx 0 (qrn - 1) r_1 e_1) (me_X6_readNumber hk.2.1) (mi_X6_readNumber hk.2.1) (ml_X6_69 hk.2.1) ((pmn 6 [0, 1, 2, 3, 4, 5] rfl rfl (by decide))) ((pmn 6 [0, 1, 2, 3, 4, 5] rfl rfl (by decide))) 0 rfl rfl rfl hl.1 rfl rfl (Nat.le_of_ble_eq_true rfl) ⟨rfl, rfl, Nat.le_of_ble_eq_true rfl, Nat.le_of_ble_eq_true rfl, Nat.zero_le _, Nat.zero_le _⟩ dX6_readLink_11 (fun H locs w => ?_)
  refine W.eq (g2 := F0 m 14 ls [.int (b2i r_1.1)]) rfl ?_
  refine lv_if_ne (tgt := 19) hx hb dX6_readLink_14 (by decide) (fun c14 => ?_) (fun c14 => ?_)
  · have h := sat_f c14 h
    refine lv_aload_n hx hb dX6_readLink_19 rfl (lv_at hl 0 rfl) ?_
    refine gf_X6_73 hx hb hown hk w.1 0 rfl rfl dX6_readLink_20 ?_
    refine lv_istore_n (lv' := [(1, .int r_1.2.2.1), (0, .ref a0)]) hx hb dX6_readLink_23 rfl hl (by decide) rfl (fun ls hl => ?_)
    refine lv_aload_n hx hb dX6_readLink_24 rfl (lv_at hl 1 rfl) ?_
    refine lv_iconst (v := 0) hx hb dX6_readLink_25 (by decide) ?_
    refine lv_aload_n hx hb dX6_readLink_26 rfl (lv_at hl 1 rfl) ?_
    refine gf_X6_12 hx hb hown hk w.1 0 rfl rfl dX6_readLink_27 ?_
    refine gf_X6_76 hx hb hown hk w.1 3 rfl rfl dX6_readLink_30 ?_
    refine lv_iconst (v := 1) hx hb dX6_readLink_33 (by decide) ?_
    refine lv_isub hx hb dX6_readLink_34 ?_
    obtain ⟨r_2, e_2, h⟩ := sat_bind h
    refine cMV (rest := []) (wr := [(a3, .inr (7, [.int qrn, .int qre, .int qrh, .int qra, .int qrl, .int qrf])), (a4, .inr (3, [.ref a5, .int qlt])), (a5, .inl (cI, 36, .inl qdl))]) (ws' := [(a0, .inr (6, [.ref a1, .ref a3, .ref a4, .int it, .int r_2.2.1, .int r_2.2.2.1, .int r_2.2.2.2.1, .int r_2.2.2.2.2])), (a1, .inr (9, [.ref a2, .int tn])), (a2, .inl (cI, 120, .inl tx)), (a3, .inr (7, [.int qrn, .int qre, .int qrh, .int qra, .int qrl, .int qrf])), (a4, .inr (3, [.ref a5, .int qlt])), (a5, .inl (cI, 36, .inl qdl))]) hx hb hml hown hk w hA (k_X6_readNumber l D cI cZ cK N a0 a1 a3 a4 a2 it r_1.2.1 r_1.2.2.1 r_1.2.2.2.1 r_1.2.2.2.2 tn tx 0 (qrn - 1) r_2 e_2) (me_X6_readNumber hk.2.1) (mi_X6_readNumber hk.2.1) (ml_X6_69 hk.2.1) ((pmn 6 [0, 1, 2, 3, 4, 5] rfl rfl (by decide))) ((pmn 6 [0, 1, 2, 3, 4, 5] rfl rfl (by decide))) 0 rfl rfl rfl hl.1 rfl rfl (Nat.le_of_ble_eq_true rfl) ⟨rfl, rfl, Nat.le_of_ble_eq_true rfl, Nat.le_of_ble_eq_true rfl, Nat.zero_le _, Nat.zero_le _⟩ dX6_readLink_35 (fun H locs w => ?_)
    refine W.eq (g2 := F0 m 38 ls [.int (b2i r_2.1)]) rfl ?_
    refine lv_if_ne (tgt := 43) hx hb dX6_readLink_38 (by decide) (fun c38 => ?_) (fun c38 => ?_)
    · have h := sat_f c38 h
      refine lv_aload_n hx hb dX6_readLink_43 rfl (lv_at hl 1 rfl) ?_
      refine gf_X6_73 hx hb hown hk w.1 0 rfl rfl dX6_readLink_44 ?_
      refine lv_istore_n (lv' := [(2, .int r_2.2.2.1), (1, .int r_1.2.2.1), (0, .ref a0)]) hx hb dX6_readLink_47 rfl hl (by decide) rfl (fun ls hl => ?_)
      refine lv_iload_n hx hb dX6_readLink_48 rfl (lv_at hl 0 rfl) ?_
      refine lv_iload_n hx hb dX6_readLink_49 rfl (lv_at hl 1 rfl) ?_
      refine lv_icmp_eq (tgt := 75) hx hb dX6_readLink_50 (by decide) (fun c50 => ?_) (fun c50 => ?_)
      · have h := sat_t c50 h
        refine lv_iconst (v := 0) hx hb dX6_readLink_75 (by decide) ?_
        have hR := hC0 _ (sat_some h)
        subst hR
        exact hret _ _ _ _ w dX6_readLink_76
      · have h := sat_f c50 h
        refine lv_aload_n hx hb dX6_readLink_53 rfl (lv_at hl 2 rfl) ?_
        refine gf_X6_21 hx hb hown hk w.1 0 rfl rfl dX6_readLink_54 ?_
        refine lv_iload_n hx hb dX6_readLink_57 rfl (lv_at hl 1 rfl) ?_
        refine lv_iload_n hx hb dX6_readLink_58 rfl (lv_at hl 0 rfl) ?_
        obtain ⟨r_3, e_3, h⟩ := sat_bind h
        refine cRV (rest := []) hx hb hml hown hk (k_X3_delayOf l D cI cZ cK a4 a5 qlt qdl r_1.2.2.1 r_2.2.2.1 r_3 e_3) (me_X3_delayOf hk.2.1) (mi_X3_delayOf hk.2.1) (ml_X6_79 hk.2.1) (w.1.sub [4, 5] rfl) 0 rfl rfl rfl hl.1 rfl rfl (Nat.le_of_ble_eq_true rfl) ⟨rfl, rfl, Nat.le_of_ble_eq_true rfl, Nat.le_of_ble_eq_true rfl, Nat.zero_le _, Nat.zero_le _⟩ dX6_readLink_59 ?_
        refine lv_if_gt (tgt := 75) hx hb dX6_readLink_62 (by decide) (fun c62 => ?_) (fun c62 => ?_)
        · have h := sat_t c62 h
          refine lv_iconst (v := 0) hx hb dX6_readLink_75 (by decide) ?_
          have hR := hC0 _ (sat_some h)
          subst hR
          exact hret _ _ _ _ w dX6_readLink_76
        · have h := sat_f c62 h
          refine lv_aload_n hx hb dX6_readLink_65 rfl (lv_at hl 2 rfl) ?_
          refine lv_iconst (v := 1) hx hb dX6_readLink_66 (by decide) ?_
          refine lv_bipush (v := 9) hx hb dX6_readLink_67 (by decide) ?_
          obtain ⟨r_4, e_4, h⟩ := sat_bind h
          refine cMV (rest := []) (wr := [(a3, .inr (7, [.int qrn, .int qre, .int qrh, .int qra, .int qrl, .int qrf])), (a4, .inr (3, [.ref a5, .int qlt])), (a5, .inl (cI, 36, .inl qdl))]) (ws' := [(a0, .inr (6, [.ref a1, .ref a3, .ref a4, .int it, .int r_4.2.1, .int r_4.2.2.1, .int r_4.2.2.2.1, .int r_4.2.2.2.2])), (a1, .inr (9, [.ref a2, .int tn])), (a2, .inl (cI, 120, .inl tx)), (a3, .inr (7, [.int qrn, .int qre, .int qrh, .int qra, .int qrl, .int qrf])), (a4, .inr (3, [.ref a5, .int qlt])), (a5, .inl (cI, 36, .inl qdl))]) hx hb hml hown hk w hA (k_X6_readNumber l D cI cZ cK N a0 a1 a3 a4 a2 it r_2.2.1 r_2.2.2.1 r_2.2.2.2.1 r_2.2.2.2.2 tn tx 1 9 r_4 e_4) (me_X6_readNumber hk.2.1) (mi_X6_readNumber hk.2.1) (ml_X6_69 hk.2.1) ((pmn 6 [0, 1, 2, 3, 4, 5] rfl rfl (by decide))) ((pmn 6 [0, 1, 2, 3, 4, 5] rfl rfl (by decide))) 0 rfl rfl rfl hl.1 rfl rfl (Nat.le_of_ble_eq_true rfl) ⟨rfl, rfl, Nat.le_of_ble_eq_true rfl, Nat.le_of_ble_eq_true rfl, Nat.zero_le _, Nat.zero_le _⟩ dX6_readLink_69 (fun H locs w => ?_)
          refine W.eq (g2 := F0 m 72 ls [.int (b2i r_4.1)]) rfl ?_
          refine lv_if_ne (tgt := 77) hx hb dX6_readLink_72 (by decide) (fun c72 => ?_) (fun c72 => ?_)
          · have h := sat_f c72 h
            refine lv_aload_n hx hb dX6_readLink_77 rfl (lv_at hl 2 rfl) ?_
            refine gf_X6_21 hx hb hown hk w.1 0 rfl rfl dX6_readLink_78 ?_
            refine lv_iload_n hx hb dX6_readLink_81 rfl (lv_at hl 1 rfl) ?_
            refine lv_iload_n hx hb dX6_readLink_82 rfl (lv_at hl 0 rfl) ?_
            refine lv_aload_n hx hb dX6_readLink_83 rfl (lv_at hl 2 rfl) ?_
            refine gf_X6_73 hx hb hown hk w.1 0 rfl rfl dX6_readLink_84 ?_
            obtain ⟨r_5, e_5, h⟩ := sat_bind h
            refine cMV (rest := []) (wr := [(a0, .inr (6, [.ref a1, .ref a3, .ref a4, .int it, .int r_4.2.1, .int r_4.2.2.1, .int r_4.2.2.2.1, .int r_4.2.2.2.2])), (a1, .inr (9, [.ref a2, .int tn])), (a2, .inl (cI, 120, .inl tx)), (a3, .inr (7, [.int qrn, .int qre, .int qrh, .int qra, .int qrl, .int qrf]))]) (ws' := [(a0, .inr (6, [.ref a1, .ref a3, .ref a4, .int it, .int r_4.2.1, .int r_4.2.2.1, .int r_4.2.2.2.1, .int r_4.2.2.2.2])), (a1, .inr (9, [.ref a2, .int tn])), (a2, .inl (cI, 120, .inl tx)), (a3, .inr (7, [.int qrn, .int qre, .int qrh, .int qra, .int qrl, .int qrf])), (a4, .inr (3, [.ref a5, .int r_5.1])), (a5, .inl (cI, 36, .inl r_5.2))]) hx hb hml hown hk w hA (k_X3_put l D cI cZ cK a4 a5 qlt qdl r_1.2.2.1 r_2.2.2.1 r_4.2.2.1 r_5 e_5) (me_X3_put hk.2.1) (mi_X3_put hk.2.1) (ml_X6_83 hk.2.1) ((pmn 6 [4, 5, 0, 1, 2, 3] rfl rfl (by decide))) ((pmn 6 [2, 3, 4, 5, 0, 1] rfl rfl (by decide))) 0 rfl rfl rfl hl.1 rfl rfl (Nat.le_of_ble_eq_true rfl) ⟨rfl, rfl, Nat.le_of_ble_eq_true rfl, Nat.le_of_ble_eq_true rfl, Nat.zero_le _, Nat.zero_le _⟩ dX6_readLink_87 (fun H locs w => ?_)
            refine W.eq (g2 := F0 m 90 ls []) rfl ?_
            refine lv_iconst (v := 1) hx hb dX6_readLink_90 (by decide) ?_
            have hR := hC0 _ (sat_some h)
            subst hR
            exact hret _ _ _ _ w dX6_readLink_91
          · have h := sat_t c72 h
            refine lv_iconst (v := 0) hx hb dX6_readLink_75 (by decide) ?_
            have hR := hC0 _ (sat_some h)
            subst hR
            exact hret _ _ _ _ w dX6_readLink_76
    · have h := sat_t c38 h
      refine lv_iconst (v := 0) hx hb dX6_readLink_41 (by decide) ?_
      have hR := hC0 _ (sat_some h)
      subst hR
      exact hret _ _ _ _ w dX6_readLink_42
  · have h := sat_t c14 h
    refine lv_iconst (v := 0) hx hb dX6_readLink_17 (by decide) ?_
    have hR := hC0 _ (sat_some h)
    subst hR
    exact hret _ _ _ _ w dX6_readLink_18
def f_X6_readRule (N : Nat) (tx : ar) (tn : Int32) (qre : Int32) (qrh : Int32) (qra : Int32) (qrl : Int32) (qrf : Int32) (nu : Int32) (nx : Int32) (x1 : Int32) : Option (Bool × Int32 × Int32 × Int32 × Int32 × Int32 × Int32 × Int32 × Int32 × Int32) := Option.bind (f_X6_lowestOf x1) fun r_1 => Option.bind (f_X6_highestOf x1) fun r_2 => Option.bind (f_X6_readNumber N tx tn nu nx r_1 r_2) fun r_3 => if (b2i r_3.1) = 0 then some (false, r_3.2.1, r_3.2.2.1, r_3.2.2.2.1, r_3.2.2.2.2, qre, qrh, qra, qrl, qrf) else if x1 = 120 then some (true, r_3.2.1, r_3.2.2.1, r_3.2.2.2.1, r_3.2.2.2.2, r_3.2.2.1, qrh, qra, qrl, qrf) else if x1 = 104 then some (true, r_3.2.1, r_3.2.2.1, r_3.2.2.2.1, r_3.2.2.2.2, qre, r_3.2.2.1, qra, qrl, qrf) else if x1 = 97 then some (true, r_3.2.1, r_3.2.2.1, r_3.2.2.2.1, r_3.2.2.2.2, qre, qrh, r_3.2.2.1, qrl, qrf) else if x1 = 108 then some (true, r_3.2.1, r_3.2.2.1, r_3.2.2.2.1, r_3.2.2.2.2, qre, qrh, qra, r_3.2.2.1, qrf) else some (true, r_3.2.1, r_3.2.2.1, r_3.2.2.2.1, r_3.2.2.2.2, qre, qrh, qra, qrl, r_3.2.2.1)
abbrev rm_X6_readRule : Room := { frames := 4, cells := 0, slots := 0, locals := 83 }
set_option maxRecDepth 100000 in
set_option maxHeartbeats 4000000 in
theorem k_X6_readRule (l : Launch) (D : va_G) (cI cZ cK : ClassId) (N : Nat) (a0 a1 a3 a4 a2 : Nat) (it : Int32) (kd : Int32) (nu : Int32) (pl : Int32) (nx : Int32) (tn : Int32) (tx : ar) (qrn : Int32) (qre : Int32) (qrh : Int32) (qra : Int32) (qrl : Int32) (qrf : Int32) (x1 : Int32) (R : Bool × Int32 × Int32 × Int32 × Int32 × Int32 × Int32 × Int32 × Int32 × Int32) (h : f_X6_readRule N tx tn qre qrh qra qrl qrf nu nx x1 = some R) : Mu l D cI cZ cK yX6_readRule cX6_readRule 2 (some .boolean) rm_X6_readRule [.ref a0, .int x1] [(a0, .inr (6, [.ref a1, .ref a3, .ref a4, .int it, .int kd, .int nu, .int pl, .int nx])), (a1, .inr (9, [.ref a2, .int tn])), (a2, .inl (cI, 120, .inl tx)), (a3, .inr (7, [.int qrn, .int qre, .int qrh, .int qra, .int qrl, .int qrf]))] (some (.int (b2i R.1))) [(a0, .inr (6, [.ref a1, .ref a3, .ref a4, .int it, .int R.2.1, .int R.2.2.1, .int R.2.2.2.1, .int R.2.2.2.2.1])), (a1, .inr (9, [.ref a2, .int tn])), (a2, .inl (cI, 120, .inl tx)), (a3, .inr (7, [.int qrn, .int R.2.2.2.2.2.1, .int R.2.2.2.2.2.2.1, .int R.2.2.2.2.2.2.2.1, .int R.2.2.2.2.2.2.2.2.1, .int R.2.2.2.2.2.2.2.2.2]))] := by
  refine mi_of (by decide) (nar_b _) (Nat.le_of_ble_eq_true rfl) ?_
  intro p e s m args below meth c Q A ls hx hb hml hown hk hA w hret hl
  have hl : lv_has ls 2 [(0, .ref a0), (1, .int x1)] := hl
  obtain ⟨C0, hC0, h⟩ := sat_top h
  unfold f_X6_readRule at h
  refine lv_aload_n hx hb dX6_readRule_0 rfl (lv_at hl 0 rfl) ?_
  refine lv_iload_n hx hb dX6_readRule_1 rfl (lv_at hl 1 rfl) ?_
  obtain ⟨r_1, e_1, h⟩ := sat_bind h
  refine cRS (rest := [.ref a0]) hx hb hml hown hk (k_X6_lowestOf l D cI cZ cK x1 r_1 e_1) (me_X6_lowestOf hk.2.1) (ms_X6_lowestOf hk.2.1) (ml_X6_87 hk.2.1) (w.1.sub [] rfl) hl.1 rfl rfl (Nat.le_of_ble_eq_true rfl) ⟨rfl, rfl, Nat.le_of_ble_eq_true rfl, Nat.le_of_ble_eq_true rfl, Nat.zero_le _, Nat.zero_le _⟩ dX6_readRule_2 ?_
  refine lv_iload_n hx hb dX6_readRule_5 rfl (lv_at hl 1 rfl) ?_
  obtain ⟨r_2, e_2, h⟩ := sat_bind h
  refine cRS (rest := [.int r_1, .ref a0]) hx hb hml hown hk (k_X6_highestOf l D cI cZ cK x1 r_2 e_2) (me_X6_highestOf hk.2.1) (ms_X6_highestOf hk.2.1) (ml_X6_91 hk.2.1) (w.1.sub [] rfl) hl.1 rfl rfl (Nat.le_of_ble_eq_true rfl) ⟨rfl, rfl, Nat.le_of_ble_eq_true rfl, Nat.le_of_ble_eq_true rfl, Nat.zero_le _, Nat.zero_le _⟩ dX6_readRule_6 ?_
  obtain ⟨r_3, e_3, h⟩ := sat_bind h
  refine cMV (rest := []) (wr := [(a3, .inr (7, [.int qrn, .int qre, .int qrh, .int qra, .int qrl, .int qrf]))]) (ws' := [(a0, .inr (6, [.ref a1, .ref a3, .ref a4, .int it, .int r_3.2.1, .int r_3.2.2.1, .int r_3.2.2.2.1, .int r_3.2.2.2.2])), (a1, .inr (9, [.ref a2, .int tn])), (a2, .inl (cI, 120, .inl tx)), (a3, .inr (7, [.int qrn, .int qre, .int qrh, .int qra, .int qrl, .int qrf]))]) hx hb hml hown hk w hA (k_X6_readNumber l D cI cZ cK N a0 a1 a3 a4 a2 it kd nu pl nx tn tx r_1 r_2 r_3 e_3) (me_X6_readNumber hk.2.1) (mi_X6_readNumber hk.2.1) (ml_X6_69 hk.2.1) ((pmn 4 [0, 1, 2, 3] rfl rfl (by decide))) ((pmn 4 [0, 1, 2, 3] rfl rfl (by decide))) 0 rfl rfl rfl hl.1 rfl rfl (Nat.le_of_ble_eq_true rfl) ⟨rfl, rfl, Nat.le_of_ble_eq_true rfl, Nat.le_of_ble_eq_true rfl, Nat.zero_le _, Nat.zero_le _⟩ dX6_readRule_9 (fun H locs w => ?_)
  refine W.eq (g2 := F0 m 12 ls [.int (b2i r_3.1)]) rfl ?_
  refine lv_if_ne (tgt := 17) hx hb dX6_readRule_12 (by decide) (fun c12 => ?_) (fun c12 => ?_)
  · have h := sat_f c12 h
    refine lv_iload_n hx hb dX6_readRule_17 rfl (lv_at hl 1 rfl) ?_
    refine lv_bipush (v := 120) hx hb dX6_readRule_18 (by decide) ?_
    refine lv_icmp_ne (tgt := 37) hx hb dX6_readRule_20 (by decide) (fun c20 => ?_) (fun c20 => ?_)
    · have h := sat_f c20 h
      refine lv_iload_n hx hb dX6_readRule_37 rfl (lv_at hl 1 rfl) ?_
      refine lv_bipush (v := 104) hx hb dX6_readRule_38 (by decide) ?_
      refine lv_icmp_ne (tgt := 57) hx hb dX6_readRule_40 (by decide) (fun c40 => ?_) (fun c40 => ?_)
      · have h := sat_f c40 h
        refine lv_iload_n hx hb dX6_readRule_57 rfl (lv_at hl 1 rfl) ?_
        refine lv_bipush (v := 97) hx hb dX6_readRule_58 (by decide) ?_
        refine lv_icmp_ne (tgt := 77) hx hb dX6_readRule_60 (by decide) (fun c60 => ?_) (fun c60 => ?_)
        · have h := sat_f c60 h
          refine lv_iload_n hx hb dX6_readRule_77 rfl (lv_at hl 1 rfl) ?_
          refine lv_bipush (v := 108) hx hb dX6_readRule_78 (by decide) ?_
          refine lv_icmp_ne (tgt := 97) hx hb dX6_readRule_80 (by decide) (fun c80 => ?_) (fun c80 => ?_)
          · have h := sat_f c80 h
            refine lv_aload_n hx hb dX6_readRule_97 rfl (lv_at hl 0 rfl) ?_
            refine gf_X6_12 hx hb hown hk w.1 0 rfl rfl dX6_readRule_98 ?_
            refine lv_aload_n hx hb dX6_readRule_101 rfl (lv_at hl 0 rfl) ?_
            refine gf_X6_73 hx hb hown hk w.1 0 rfl rfl dX6_readRule_102 ?_
            refine pf_X6_106 (ws' := [(a0, .inr (6, [.ref a1, .ref a3, .ref a4, .int it, .int r_3.2.1, .int r_3.2.2.1, .int r_3.2.2.2.1, .int r_3.2.2.2.2])), (a1, .inr (9, [.ref a2, .int tn])), (a2, .inl (cI, 120, .inl tx)), (a3, .inr (7, [.int qrn, .int qre, .int qrh, .int qra, .int qrl, .int r_3.2.2.1]))]) hx hb hown hk w 3 rfl (Nat.le_of_ble_eq_true rfl) rfl dX6_readRule_105 (fun H locs w => ?_)
            refine lv_iconst (v := 1) hx hb dX6_readRule_108 (by decide) ?_
            have hR := hC0 _ (sat_some h)
            subst hR
            exact hret _ _ _ _ w dX6_readRule_109
          · have h := sat_t c80 h
            refine lv_aload_n hx hb dX6_readRule_83 rfl (lv_at hl 0 rfl) ?_
            refine gf_X6_12 hx hb hown hk w.1 0 rfl rfl dX6_readRule_84 ?_
            refine lv_aload_n hx hb dX6_readRule_87 rfl (lv_at hl 0 rfl) ?_
            refine gf_X6_73 hx hb hown hk w.1 0 rfl rfl dX6_readRule_88 ?_
            refine pf_X6_103 (ws' := [(a0, .inr (6, [.ref a1, .ref a3, .ref a4, .int it, .int r_3.2.1, .int r_3.2.2.1, .int r_3.2.2.2.1, .int r_3.2.2.2.2])), (a1, .inr (9, [.ref a2, .int tn])), (a2, .inl (cI, 120, .inl tx)), (a3, .inr (7, [.int qrn, .int qre, .int qrh, .int qra, .int r_3.2.2.1, .int qrf]))]) hx hb hown hk w 3 rfl (Nat.le_of_ble_eq_true rfl) rfl dX6_readRule_91 (fun H locs w => ?_)
            refine lv_goto (tgt := 108) hx hb dX6_readRule_94 (by decide) ?_
            refine lv_iconst (v := 1) hx hb dX6_readRule_108 (by decide) ?_
            have hR := hC0 _ (sat_some h)
            subst hR
            exact hret _ _ _ _ w dX6_readRule_109
        · have h := sat_t c60 h
          refine lv_aload_n hx hb dX6_readRule_63 rfl (lv_at hl 0 rfl) ?_
          refine gf_X6_12 hx hb hown hk w.1 0 rfl rfl dX6_readRule_64 ?_
          refine lv_aload_n hx hb dX6_readRule_67 rfl (lv_at hl 0 rfl) ?_
          refine gf_X6_73 hx hb hown hk w.1 0 rfl rfl dX6_readRule_68 ?_
          refine pf_X6_100 (ws' := [(a0, .inr (6, [.ref a1, .ref a3, .ref a4, .int it, .int r_3.2.1, .int r_3.2.2.1, .int r_3.2.2.2.1, .int r_3.2.2.2.2])), (a1, .inr (9, [.ref a2, .int tn])), (a2, .inl (cI, 120, .inl tx)), (a3, .inr (7, [.int qrn, .int qre, .int qrh, .int r_3.2.2.1, .int qrl, .int qrf]))]) hx hb hown hk w 3 rfl (Nat.le_of_ble_eq_true rfl) rfl dX6_readRule_71 (fun H locs w => ?_)
          refine lv_goto (tgt := 108) hx hb dX6_readRule_74 (by decide) ?_
          refine lv_iconst (v := 1) hx hb dX6_readRule_108 (by decide) ?_
          have hR := hC0 _ (sat_some h)
          subst hR
          exact hret _ _ _ _ w dX6_readRule_109
      · have h := sat_t c40 h
        refine lv_aload_n hx hb dX6_readRule_43 rfl (lv_at hl 0 rfl) ?_
        refine gf_X6_12 hx hb hown hk w.1 0 rfl rfl dX6_readRule_44 ?_
        refine lv_aload_n hx hb dX6_readRule_47 rfl (lv_at hl 0 rfl) ?_
        refine gf_X6_73 hx hb hown hk w.1 0 rfl rfl dX6_readRule_48 ?_
        refine pf_X6_97 (ws' := [(a0, .inr (6, [.ref a1, .ref a3, .ref a4, .int it, .int r_3.2.1, .int r_3.2.2.1, .int r_3.2.2.2.1, .int r_3.2.2.2.2])), (a1, .inr (9, [.ref a2, .int tn])), (a2, .inl (cI, 120, .inl tx)), (a3, .inr (7, [.int qrn, .int qre, .int r_3.2.2.1, .int qra, .int qrl, .int qrf]))]) hx hb hown hk w 3 rfl (Nat.le_of_ble_eq_true rfl) rfl dX6_readRule_51 (fun H locs w => ?_)
        refine lv_goto (tgt := 108) hx hb dX6_readRule_54 (by decide) ?_
        refine lv_iconst (v := 1) hx hb dX6_readRule_108 (by decide) ?_
        have hR := hC0 _ (sat_some h)
        subst hR
        exact hret _ _ _ _ w dX6_readRule_109
    · have h := sat_t c20 h
      refine lv_aload_n hx hb dX6_readRule_23 rfl (lv_at hl 0 rfl) ?_
      refine gf_X6_12 hx hb hown hk w.1 0 rfl rfl dX6_readRule_24 ?_
      refine lv_aload_n hx hb dX6_readRule_27 rfl (lv_at hl 0 rfl) ?_
      refine gf_X6_73 hx hb hown hk w.1 0 rfl rfl dX6_readRule_28 ?_
      refine pf_X6_94 (ws' := [(a0, .inr (6, [.ref a1, .ref a3, .ref a4, .int it, .int r_3.2.1, .int r_3.2.2.1, .int r_3.2.2.2.1, .int r_3.2.2.2.2])), (a1, .inr (9, [.ref a2, .int tn])), (a2, .inl (cI, 120, .inl tx)), (a3, .inr (7, [.int qrn, .int r_3.2.2.1, .int qrh, .int qra, .int qrl, .int qrf]))]) hx hb hown hk w 3 rfl (Nat.le_of_ble_eq_true rfl) rfl dX6_readRule_31 (fun H locs w => ?_)
      refine lv_goto (tgt := 108) hx hb dX6_readRule_34 (by decide) ?_
      refine lv_iconst (v := 1) hx hb dX6_readRule_108 (by decide) ?_
      have hR := hC0 _ (sat_some h)
      subst hR
      exact hret _ _ _ _ w dX6_readRule_109
  · have h := sat_t c12 h
    refine lv_iconst (v := 0) hx hb dX6_readRule_15 (by decide) ?_
    have hR := hC0 _ (sat_some h)
    subst hR
    exact hret _ _ _ _ w dX6_readRule_16
def f_X6_readItem (N : Nat) (tx : ar) (tn : Int32) (qrn : Int32) (qre : Int32) (qrh : Int32) (qra : Int32) (qrl : Int32) (qrf : Int32) (qdl : ar) (qlt : Int32) (it : Int32) (kd : Int32) (nu : Int32) (pl : Int32) (nx : Int32) : Option (Bool × Int32 × Int32 × Int32 × Int32 × Int32 × Int32 × Int32 × Int32 × Int32 × Int32 × Int32 × ar) := if kd = 97 then Option.bind (f_X6_readRule N tx tn qre qrh qra qrl qrf nu nx kd) fun r_1 => some (r_1.1, r_1.2.1, r_1.2.2.1, r_1.2.2.2.1, r_1.2.2.2.2.1, qrn, r_1.2.2.2.2.2.1, r_1.2.2.2.2.2.2.1, r_1.2.2.2.2.2.2.2.1, r_1.2.2.2.2.2.2.2.2.1, r_1.2.2.2.2.2.2.2.2.2, qlt, qdl) else if kd = 101 then if 10 ≤ qlt then some (false, kd, nu, pl, nx, qrn, qre, qrh, qra, qrl, qrf, qlt, qdl) else Option.bind (f_X6_readLink N tx tn qrn qdl qlt nu nx) fun r_2 => if (b2i r_2.1) = 0 then some (false, r_2.2.1, r_2.2.2.1, r_2.2.2.2.1, r_2.2.2.2.2.1, qrn, qre, qrh, qra, qrl, qrf, r_2.2.2.2.2.2.1, r_2.2.2.2.2.2.2) else some (true, r_2.2.1, r_2.2.2.1, r_2.2.2.2.1, r_2.2.2.2.2.1, qrn, qre, qrh, qra, qrl, qrf, r_2.2.2.2.2.2.1, r_2.2.2.2.2.2.2) else if kd = 102 then Option.bind (f_X6_readRule N tx tn qre qrh qra qrl qrf nu nx kd) fun r_3 => some (r_3.1, r_3.2.1, r_3.2.2.1, r_3.2.2.2.1, r_3.2.2.2.2.1, qrn, r_3.2.2.2.2.2.1, r_3.2.2.2.2.2.2.1, r_3.2.2.2.2.2.2.2.1, r_3.2.2.2.2.2.2.2.2.1, r_3.2.2.2.2.2.2.2.2.2, qlt, qdl) else if kd = 104 then Option.bind (f_X6_readRule N tx tn qre qrh qra qrl qrf nu nx kd) fun r_4 => some (r_4.1, r_4.2.1, r_4.2.2.1, r_4.2.2.2.1, r_4.2.2.2.2.1, qrn, r_4.2.2.2.2.2.1, r_4.2.2.2.2.2.2.1, r_4.2.2.2.2.2.2.2.1, r_4.2.2.2.2.2.2.2.2.1, r_4.2.2.2.2.2.2.2.2.2, qlt, qdl) else if kd = 108 then Option.bind (f_X6_readRule N tx tn qre qrh qra qrl qrf nu nx kd) fun r_5 => some (r_5.1, r_5.2.1, r_5.2.2.1, r_5.2.2.2.1, r_5.2.2.2.2.1, qrn, r_5.2.2.2.2.2.1, r_5.2.2.2.2.2.2.1, r_5.2.2.2.2.2.2.2.1, r_5.2.2.2.2.2.2.2.2.1, r_5.2.2.2.2.2.2.2.2.2, qlt, qdl) else if kd = 110 then if it = 0 then Option.bind (f_X6_readNodes N tx tn qrn nu nx) fun r_6 => if (b2i r_6.1) = 0 then some (false, r_6.2.1, r_6.2.2.1, r_6.2.2.2.1, r_6.2.2.2.2.1, r_6.2.2.2.2.2, qre, qrh, qra, qrl, qrf, qlt, qdl) else some (true, r_6.2.1, r_6.2.2.1, r_6.2.2.2.1, r_6.2.2.2.2.1, r_6.2.2.2.2.2, qre, qrh, qra, qrl, qrf, qlt, qdl) else some (false, kd, nu, pl, nx, qrn, qre, qrh, qra, qrl, qrf, qlt, qdl) else if kd = 120 then Option.bind (f_X6_readRule N tx tn qre qrh qra qrl qrf nu nx kd) fun r_7 => some (r_7.1, r_7.2.1, r_7.2.2.1, r_7.2.2.2.1, r_7.2.2.2.2.1, qrn, r_7.2.2.2.2.2.1, r_7.2.2.2.2.2.2.1, r_7.2.2.2.2.2.2.2.1, r_7.2.2.2.2.2.2.2.2.1, r_7.2.2.2.2.2.2.2.2.2, qlt, qdl) else some (false, kd, nu, pl, nx, qrn, qre, qrh, qra, qrl, qrf, qlt, qdl)
abbrev rm_X6_readItem : Room := { frames := 5, cells := 0, slots := 0, locals := 105 }
set_option maxRecDepth 100000 in
set_option maxHeartbeats 4000000 in
theorem k_X6_readItem (l : Launch) (D : va_G) (cI cZ cK : ClassId) (N : Nat) (a0 a1 a3 a4 a2 a5 : Nat) (it : Int32) (kd : Int32) (nu : Int32) (pl : Int32) (nx : Int32) (tn : Int32) (tx : ar) (qrn : Int32) (qre : Int32) (qrh : Int32) (qra : Int32) (qrl : Int32) (qrf : Int32) (qlt : Int32) (qdl : ar) (R : Bool × Int32 × Int32 × Int32 × Int32 × Int32 × Int32 × Int32 × Int32 × Int32 × Int32 × Int32 × ar) (h : f_X6_readItem N tx tn qrn qre qrh qra qrl qrf qdl qlt it kd nu pl nx = some R) : Mu l D cI cZ cK yX6_readItem cX6_readItem 1 (some .boolean) rm_X6_readItem [.ref a0] [(a0, .inr (6, [.ref a1, .ref a3, .ref a4, .int it, .int kd, .int nu, .int pl, .int nx])), (a1, .inr (9, [.ref a2, .int tn])), (a2, .inl (cI, 120, .inl tx)), (a3, .inr (7, [.int qrn, .int qre, .int qrh, .int qra, .int qrl, .int qrf])), (a4, .inr (3, [.ref a5, .int qlt])), (a5, .inl (cI, 36, .inl qdl))] (some (.int (b2i R.1))) [(a0, .inr (6, [.ref a1, .ref a3, .ref a4, .int it, .int R.2.1, .int R.2.2.1, .int R.2.2.2.1, .int R.2.2.2.2.1])), (a1, .inr (9, [.ref a2, .int tn])), (a2, .inl (cI, 120, .inl tx)), (a3, .inr (7, [.int R.2.2.2.2.2.1, .int R.2.2.2.2.2.2.1, .int R.2.2.2.2.2.2.2.1, .int R.2.2.2.2.2.2.2.2.1, .int R.2.2.2.2.2.2.2.2.2.1, .int R.2.2.2.2.2.2.2.2.2.2.1])), (a4, .inr (3, [.ref a5, .int R.2.2.2.2.2.2.2.2.2.2.2.1])), (a5, .inl (cI, 36, .inl R.2.2.2.2.2.2.2.2.2.2.2.2))] := by
  refine mi_of (by decide) (nar_b _) (Nat.le_of_ble_eq_true rfl) ?_
  intro p e s m args below meth c Q A ls hx hb hml hown hk hA w hret hl
  have hl : lv_has ls 1 [(0, .ref a0)] := hl
  obtain ⟨C0, hC0, h⟩ := sat_top h
  unfold f_X6_readItem at h
  refine lv_aload_n hx hb dX6_readItem_0 rfl (lv_at hl 0 rfl) ?_
  refine gf_X6_43 hx hb hown hk w.1 0 rfl rfl dX6_readItem_1 ?_
  by_cases c4_97 : kd = 97
  · have h := sat_t c4_97 h
    refine lv_tableIn (off := 157) (tgt := 161) hx hb dX6_readItem_4 (by rw [c4_97]; decide) (by rw [c4_97]; decide) (by rw [c4_97]; decide) (by decide) ?_
    refine lv_aload_n hx hb dX6_readItem_161 rfl (lv_at hl 0 rfl) ?_
    refine lv_aload_n hx hb dX6_readItem_162 rfl (lv_at hl 0 rfl) ?_
    refine gf_X6_43 hx hb hown hk w.1 0 rfl rfl dX6_readItem_163 ?_
    obtain ⟨r_1, e_1, h⟩ := sat_bind h
    refine cMV (rest := []) (wr := [(a4, .inr (3, [.ref a5, .int qlt])), (a5, .inl (cI, 36, .inl qdl))]) (ws' := [(a0, .inr (6, [.ref a1, .ref a3, .ref a4, .int it, .int r_1.2.1, .int r_1.2.2.1, .int r_1.2.2.2.1, .int r_1.2.2.2.2.1])), (a1, .inr (9, [.ref a2, .int tn])), (a2, .inl (cI, 120, .inl tx)), (a3, .inr (7, [.int qrn, .int r_1.2.2.2.2.2.1, .int r_1.2.2.2.2.2.2.1, .int r_1.2.2.2.2.2.2.2.1, .int r_1.2.2.2.2.2.2.2.2.1, .int r_1.2.2.2.2.2.2.2.2.2])), (a4, .inr (3, [.ref a5, .int qlt])), (a5, .inl (cI, 36, .inl qdl))]) hx hb hml hown hk w hA (k_X6_readRule l D cI cZ cK N a0 a1 a3 a4 a2 it kd nu pl nx tn tx qrn qre qrh qra qrl qrf kd r_1 e_1) (me_X6_readRule hk.2.1) (mi_X6_readRule hk.2.1) (ml_X6_65 hk.2.1) ((pmn 6 [0, 1, 2, 3, 4, 5] rfl rfl (by decide))) ((pmn 6 [0, 1, 2, 3, 4, 5] rfl rfl (by decide))) 0 rfl rfl rfl hl.1 rfl rfl (Nat.le_of_ble_eq_true rfl) ⟨rfl, rfl, Nat.le_of_ble_eq_true rfl, Nat.le_of_ble_eq_true rfl, Nat.zero_le _, Nat.zero_le _⟩ dX6_readItem_166 (fun H locs w => ?_)
    refine W.eq (g2 := F0 m 169 ls [.int (b2i r_1.1)]) rfl ?_
    have hR := hC0 _ (sat_some h)
    subst hR
    exact hret _ _ _ _ w dX6_readItem_169
  have h := sat_f c4_97 h
  have nc4_97 := ne_ti (z := 97) c4_97 (by decide)
  by_cases c4_98 : kd = 98
  · have h := sat_f (show ¬ kd = 101 from by rw [c4_98]; decide) h
    have h := sat_f (show ¬ kd = 102 from by rw [c4_98]; decide) h
    have h := sat_f (show ¬ kd = 104 from by rw [c4_98]; decide) h
    have h := sat_f (show ¬ kd = 108 from by rw [c4_98]; decide) h
    have h := sat_f (show ¬ kd = 110 from by rw [c4_98]; decide) h
    have h := sat_f (show ¬ kd = 120 from by rw [c4_98]; decide) h
    refine lv_tableIn (off := 166) (tgt := 170) hx hb dX6_readItem_4 (by rw [c4_98]; decide) (by rw [c4_98]; decide) (by rw [c4_98]; decide) (by decide) ?_
    refine lv_iconst (v := 0) hx hb dX6_readItem_170 (by decide) ?_
    have hR := hC0 _ (sat_some h)
    subst hR
    exact hret _ _ _ _ w dX6_readItem_171
  have nc4_98 := ne_ti (z := 98) c4_98 (by decide)
  by_cases c4_99 : kd = 99
  · have h := sat_f (show ¬ kd = 101 from by rw [c4_99]; decide) h
    have h := sat_f (show ¬ kd = 102 from by rw [c4_99]; decide) h
    have h := sat_f (show ¬ kd = 104 from by rw [c4_99]; decide) h
    have h := sat_f (show ¬ kd = 108 from by rw [c4_99]; decide) h
    have h := sat_f (show ¬ kd = 110 from by rw [c4_99]; decide) h
    have h := sat_f (show ¬ kd = 120 from by rw [c4_99]; decide) h
    refine lv_tableIn (off := 166) (tgt := 170) hx hb dX6_readItem_4 (by rw [c4_99]; decide) (by rw [c4_99]; decide) (by rw [c4_99]; decide) (by decide) ?_
    refine lv_iconst (v := 0) hx hb dX6_readItem_170 (by decide) ?_
    have hR := hC0 _ (sat_some h)
    subst hR
    exact hret _ _ _ _ w dX6_readItem_171
  have nc4_99 := ne_ti (z := 99) c4_99 (by decide)
  by_cases c4_100 : kd = 100
  · have h := sat_f (show ¬ kd = 101 from by rw [c4_100]; decide) h
    have h := sat_f (show ¬ kd = 102 from by rw [c4_100]; decide) h
    have h := sat_f (show ¬ kd = 104 from by rw [c4_100]; decide) h
    have h := sat_f (show ¬ kd = 108 from by rw [c4_100]; decide) h
    have h := sat_f (show ¬ kd = 110 from by rw [c4_100]; decide) h
    have h := sat_f (show ¬ kd = 120 from by rw [c4_100]; decide) h
    refine lv_tableIn (off := 166) (tgt := 170) hx hb dX6_readItem_4 (by rw [c4_100]; decide) (by rw [c4_100]; decide) (by rw [c4_100]; decide) (by decide) ?_
    refine lv_iconst (v := 0) hx hb dX6_readItem_170 (by decide) ?_
    have hR := hC0 _ (sat_some h)
    subst hR
    exact hret _ _ _ _ w dX6_readItem_171
  have nc4_100 := ne_ti (z := 100) c4_100 (by decide)
  by_cases c4_101 : kd = 101
  · have h := sat_t c4_101 h
    refine lv_tableIn (off := 132) (tgt := 136) hx hb dX6_readItem_4 (by rw [c4_101]; decide) (by rw [c4_101]; decide) (by rw [c4_101]; decide) (by decide) ?_
    refine lv_aload_n hx hb dX6_readItem_136 rfl (lv_at hl 0 rfl) ?_
    refine gf_X6_21 hx hb hown hk w.1 0 rfl rfl dX6_readItem_137 ?_
    refine gf_X6_59 hx hb hown hk w.1 4 rfl rfl dX6_readItem_140 ?_
    refine lv_bipush (v := 10) hx hb dX6_readItem_143 (by decide) ?_
    refine lv_icmp_ge (tgt := 159) hx hb dX6_readItem_145 (by decide) (fun c145 => ?_) (fun c145 => ?_)
    · have h := sat_t c145 h
      refine lv_iconst (v := 0) hx hb dX6_readItem_159 (by decide) ?_
      have hR := hC0 _ (sat_some h)
      subst hR
      exact hret _ _ _ _ w dX6_readItem_160
    · have h := sat_f c145 h
      refine lv_aload_n hx hb dX6_readItem_148 rfl (lv_at hl 0 rfl) ?_
      obtain ⟨r_2, e_2, h⟩ := sat_bind h
      refine cMV (rest := []) (wr := []) (ws' := [(a0, .inr (6, [.ref a1, .ref a3, .ref a4, .int it, .int r_2.2.1, .int r_2.2.2.1, .int r_2.2.2.2.1, .int r_2.2.2.2.2.1])), (a1, .inr (9, [.ref a2, .int tn])), (a2, .inl (cI, 120, .inl tx)), (a3, .inr (7, [.int qrn, .int qre, .int qrh, .int qra, .int qrl, .int qrf])), (a4, .inr (3, [.ref a5, .int r_2.2.2.2.2.2.1])), (a5, .inl (cI, 36, .inl r_2.2.2.2.2.2.2))]) hx hb hml hown hk w hA (k_X6_readLink l D cI cZ cK N a0 a1 a3 a4 a2 a5 it kd nu pl nx tn tx qrn qre qrh qra qrl qrf qlt qdl r_2 e_2) (me_X6_readLink hk.2.1) (mi_X6_readLink hk.2.1) (ml_X6_62 hk.2.1) ((pmn 6 [0, 1, 2, 3, 4, 5] rfl rfl (by decide))) ((pmn 6 [0, 1, 2, 3, 4, 5] rfl rfl (by decide))) 0 rfl rfl rfl hl.1 rfl rfl (Nat.le_of_ble_eq_true rfl) ⟨rfl, rfl, Nat.le_of_ble_eq_true rfl, Nat.le_of_ble_eq_true rfl, Nat.zero_le _, Nat.zero_le _⟩ dX6_readItem_149 (fun H locs w => ?_)
      refine W.eq (g2 := F0 m 152 ls [.int (b2i r_2.1)]) rfl ?_
      refine lv_if_eq (tgt := 159) hx hb dX6_readItem_152 (by decide) (fun c152 => ?_) (fun c152 => ?_)
      · have h := sat_t c152 h
        refine lv_iconst (v := 0) hx hb dX6_readItem_159 (by decide) ?_
        have hR := hC0 _ (sat_some h)
        subst hR
        exact hret _ _ _ _ w dX6_readItem_160
      · have h := sat_f c152 h
        refine lv_iconst (v := 1) hx hb dX6_readItem_155 (by decide) ?_
        refine lv_goto (tgt := 160) hx hb dX6_readItem_156 (by decide) ?_
        have hR := hC0 _ (sat_some h)
        subst hR
        exact hret _ _ _ _ w dX6_readItem_160
  have h := sat_f c4_101 h
  have nc4_101 := ne_ti (z := 101) c4_101 (by decide)
  by_cases c4_102 : kd = 102
  · have h := sat_t c4_102 h
    refine lv_tableIn (off := 157) (tgt := 161) hx hb dX6_readItem_4 (by rw [c4_102]; decide) (by rw [c4_102]; decide) (by rw [c4_102]; decide) (by decide) ?_
    refine lv_aload_n hx hb dX6_readItem_161 rfl (lv_at hl 0 rfl) ?_
    refine lv_aload_n hx hb dX6_readItem_162 rfl (lv_at hl 0 rfl) ?_
    refine gf_X6_43 hx hb hown hk w.1 0 rfl rfl dX6_readItem_163 ?_
    obtain ⟨r_3, e_3, h⟩ := sat_bind h
    refine cMV (rest := []) (wr := [(a4, .inr (3, [.ref a5, .int qlt])), (a5, .inl (cI, 36, .inl qdl))]) (ws' := [(a0, .inr (6, [.ref a1, .ref a3, .ref a4, .int it, .int r_3.2.1, .int r_3.2.2.1, .int r_3.2.2.2.1, .int r_3.2.2.2.2.1])), (a1, .inr (9, [.ref a2, .int tn])), (a2, .inl (cI, 120, .inl tx)), (a3, .inr (7, [.int qrn, .int r_3.2.2.2.2.2.1, .int r_3.2.2.2.2.2.2.1, .int r_3.2.2.2.2.2.2.2.1, .int r_3.2.2.2.2.2.2.2.2.1, .int r_3.2.2.2.2.2.2.2.2.2])), (a4, .inr (3, [.ref a5, .int qlt])), (a5, .inl (cI, 36, .inl qdl))]) hx hb hml hown hk w hA (k_X6_readRule l D cI cZ cK N a0 a1 a3 a4 a2 it kd nu pl nx tn tx qrn qre qrh qra qrl qrf kd r_3 e_3) (me_X6_readRule hk.2.1) (mi_X6_readRule hk.2.1) (ml_X6_65 hk.2.1) ((pmn 6 [0, 1, 2, 3, 4, 5] rfl rfl (by decide))) ((pmn 6 [0, 1, 2, 3, 4, 5] rfl rfl (by decide))) 0 rfl rfl rfl hl.1 rfl rfl (Nat.le_of_ble_eq_true rfl) ⟨rfl, rfl, Nat.le_of_ble_eq_true rfl, Nat.le_of_ble_eq_true rfl, Nat.zero_le _, Nat.zero_le _⟩ dX6_readItem_166 (fun H locs w => ?_)
    refine W.eq (g2 := F0 m 169 ls [.int (b2i r_3.1)]) rfl ?_
    have hR := hC0 _ (sat_some h)
    subst hR
    exact hret _ _ _ _ w dX6_readItem_169
  have h := sat_f c4_102 h
  have nc4_102 := ne_ti (z := 102) c4_102 (by decide)
  by_cases c4_103 : kd = 103
  · have h := sat_f (show ¬ kd = 104 from by rw [c4_103]; decide) h
    have h := sat_f (show ¬ kd = 108 from by rw [c4_103]; decide) h
    have h := sat_f (show ¬ kd = 110 from by rw [c4_103]; decide) h
    have h := sat_f (show ¬ kd = 120 from by rw [c4_103]; decide) h
    refine lv_tableIn (off := 166) (tgt := 170) hx hb dX6_readItem_4 (by rw [c4_103]; decide) (by rw [c4_103]; decide) (by rw [c4_103]; decide) (by decide) ?_
    refine lv_iconst (v := 0) hx hb dX6_readItem_170 (by decide) ?_
    have hR := hC0 _ (sat_some h)
    subst hR
    exact hret _ _ _ _ w dX6_readItem_171
  have nc4_103 := ne_ti (z := 103) c4_103 (by decide)
  by_cases c4_104 : kd = 104
  · have h := sat_t c4_104 h
    refine lv_tableIn (off := 157) (tgt := 161) hx hb dX6_readItem_4 (by rw [c4_104]; decide) (by rw [c4_104]; decide) (by rw [c4_104]; decide) (by decide) ?_
    refine lv_aload_n hx hb dX6_readItem_161 rfl (lv_at hl 0 rfl) ?_
    refine lv_aload_n hx hb dX6_readItem_162 rfl (lv_at hl 0 rfl) ?_
    refine gf_X6_43 hx hb hown hk w.1 0 rfl rfl dX6_readItem_163 ?_
    obtain ⟨r_4, e_4, h⟩ := sat_bind h
    refine cMV (rest := []) (wr := [(a4, .inr (3, [.ref a5, .int qlt])), (a5, .inl (cI, 36, .inl qdl))]) (ws' := [(a0, .inr (6, [.ref a1, .ref a3, .ref a4, .int it, .int r_4.2.1, .int r_4.2.2.1, .int r_4.2.2.2.1, .int r_4.2.2.2.2.1])), (a1, .inr (9, [.ref a2, .int tn])), (a2, .inl (cI, 120, .inl tx)), (a3, .inr (7, [.int qrn, .int r_4.2.2.2.2.2.1, .int r_4.2.2.2.2.2.2.1, .int r_4.2.2.2.2.2.2.2.1, .int r_4.2.2.2.2.2.2.2.2.1, .int r_4.2.2.2.2.2.2.2.2.2])), (a4, .inr (3, [.ref a5, .int qlt])), (a5, .inl (cI, 36, .inl qdl))]) hx hb hml hown hk w hA (k_X6_readRule l D cI cZ cK N a0 a1 a3 a4 a2 it kd nu pl nx tn tx qrn qre qrh qra qrl qrf kd r_4 e_4) (me_X6_readRule hk.2.1) (mi_X6_readRule hk.2.1) (ml_X6_65 hk.2.1) ((pmn 6 [0, 1, 2, 3, 4, 5] rfl rfl (by decide))) ((pmn 6 [0, 1, 2, 3, 4, 5] rfl rfl (by decide))) 0 rfl rfl rfl hl.1 rfl rfl (Nat.le_of_ble_eq_true rfl) ⟨rfl, rfl, Nat.le_of_ble_eq_true rfl, Nat.le_of_ble_eq_true rfl, Nat.zero_le _, Nat.zero_le _⟩ dX6_readItem_166 (fun H locs w => ?_)
    refine W.eq (g2 := F0 m 169 ls [.int (b2i r_4.1)]) rfl ?_
    have hR := hC0 _ (sat_some h)
    subst hR
    exact hret _ _ _ _ w dX6_readItem_169
  have h := sat_f c4_104 h
  have nc4_104 := ne_ti (z := 104) c4_104 (by decide)
  by_cases c4_105 : kd = 105
  · have h := sat_f (show ¬ kd = 108 from by rw [c4_105]; decide) h
    have h := sat_f (show ¬ kd = 110 from by rw [c4_105]; decide) h
    have h := sat_f (show ¬ kd = 120 from by rw [c4_105]; decide) h
    refine lv_tableIn (off := 166) (tgt := 170) hx hb dX6_readItem_4 (by rw [c4_105]; decide) (by rw [c4_105]; decide) (by rw [c4_105]; decide) (by decide) ?_
    refine lv_iconst (v := 0) hx hb dX6_readItem_170 (by decide) ?_
    have hR := hC0 _ (sat_some h)
    subst hR
    exact hret _ _ _ _ w dX6_readItem_171
  have nc4_105 := ne_ti (z := 105) c4_105 (by decide)
  by_cases c4_106 : kd = 106
  · have h := sat_f (show ¬ kd = 108 from by rw [c4_106]; decide) h
    have h := sat_f (show ¬ kd = 110 from by rw [c4_106]; decide) h
    have h := sat_f (show ¬ kd = 120 from by rw [c4_106]; decide) h
    refine lv_tableIn (off := 166) (tgt := 170) hx hb dX6_readItem_4 (by rw [c4_106]; decide) (by rw [c4_106]; decide) (by rw [c4_106]; decide) (by decide) ?_
    refine lv_iconst (v := 0) hx hb dX6_readItem_170 (by decide) ?_
    have hR := hC0 _ (sat_some h)
    subst hR
    exact hret _ _ _ _ w dX6_readItem_171
  have nc4_106 := ne_ti (z := 106) c4_106 (by decide)
  by_cases c4_107 : kd = 107
  · have h := sat_f (show ¬ kd = 108 from by rw [c4_107]; decide) h
    have h := sat_f (show ¬ kd = 110 from by rw [c4_107]; decide) h
    have h := sat_f (show ¬ kd = 120 from by rw [c4_107]; decide) h
    refine lv_tableIn (off := 166) (tgt := 170) hx hb dX6_readItem_4 (by rw [c4_107]; decide) (by rw [c4_107]; decide) (by rw [c4_107]; decide) (by decide) ?_
    refine lv_iconst (v := 0) hx hb dX6_readItem_170 (by decide) ?_
    have hR := hC0 _ (sat_some h)
    subst hR
    exact hret _ _ _ _ w dX6_readItem_171
  have nc4_107 := ne_ti (z := 107) c4_107 (by decide)
  by_cases c4_108 : kd = 108
  · have h := sat_t c4_108 h
    refine lv_tableIn (off := 157) (tgt := 161) hx hb dX6_readItem_4 (by rw [c4_108]; decide) (by rw [c4_108]; decide) (by rw [c4_108]; decide) (by decide) ?_
    refine lv_aload_n hx hb dX6_readItem_161 rfl (lv_at hl 0 rfl) ?_
    refine lv_aload_n hx hb dX6_readItem_162 rfl (lv_at hl 0 rfl) ?_
    refine gf_X6_43 hx hb hown hk w.1 0 rfl rfl dX6_readItem_163 ?_
    obtain ⟨r_5, e_5, h⟩ := sat_bind h
    refine cMV (rest := []) (wr := [(a4, .inr (3, [.ref a5, .int qlt])), (a5, .inl (cI, 36, .inl qdl))]) (ws' := [(a0, .inr (6, [.ref a1, .ref a3, .ref a4, .int it, .int r_5.2.1, .int r_5.2.2.1, .int r_5.2.2.2.1, .int r_5.2.2.2.2.1])), (a1, .inr (9, [.ref a2, .int tn])), (a2, .inl (cI, 120, .inl tx)), (a3, .inr (7, [.int qrn, .int r_5.2.2.2.2.2.1, .int r_5.2.2.2.2.2.2.1, .int r_5.2.2.2.2.2.2.2.1, .int r_5.2.2.2.2.2.2.2.2.1, .int r_5.2.2.2.2.2.2.2.2.2])), (a4, .inr (3, [.ref a5, .int qlt])), (a5, .inl (cI, 36, .inl qdl))]) hx hb hml hown hk w hA (k_X6_readRule l D cI cZ cK N a0 a1 a3 a4 a2 it kd nu pl nx tn tx qrn qre qrh qra qrl qrf kd r_5 e_5) (me_X6_readRule hk.2.1) (mi_X6_readRule hk.2.1) (ml_X6_65 hk.2.1) ((pmn 6 [0, 1, 2, 3, 4, 5] rfl rfl (by decide))) ((pmn 6 [0, 1, 2, 3, 4, 5] rfl rfl (by decide))) 0 rfl rfl rfl hl.1 rfl rfl (Nat.le_of_ble_eq_true rfl) ⟨rfl, rfl, Nat.le_of_ble_eq_true rfl, Nat.le_of_ble_eq_true rfl, Nat.zero_le _, Nat.zero_le _⟩ dX6_readItem_166 (fun H locs w => ?_)
    refine W.eq (g2 := F0 m 169 ls [.int (b2i r_5.1)]) rfl ?_
    have hR := hC0 _ (sat_some h)
    subst hR
    exact hret _ _ _ _ w dX6_readItem_169
  have h := sat_f c4_108 h
  have nc4_108 := ne_ti (z := 108) c4_108 (by decide)
  by_cases c4_109 : kd = 109
  · have h := sat_f (show ¬ kd = 110 from by rw [c4_109]; decide) h
    have h := sat_f (show ¬ kd = 120 from by rw [c4_109]; decide) h
    refine lv_tableIn (off := 166) (tgt := 170) hx hb dX6_readItem_4 (by rw [c4_109]; decide) (by rw [c4_109]; decide) (by rw [c4_109]; decide) (by decide) ?_
    refine lv_iconst (v := 0) hx hb dX6_readItem_170 (by decide) ?_
    have hR := hC0 _ (sat_some h)
    subst hR
    exact hret _ _ _ _ w dX6_readItem_171
  have nc4_109 := ne_ti (z := 109) c4_109 (by decide)
  by_cases c4_110 : kd = 110
  · have h := sat_t c4_110 h
    refine lv_tableIn (off := 112) (tgt := 116) hx hb dX6_readItem_4 (by rw [c4_110]; decide) (by rw [c4_110]; decide) (by rw [c4_110]; decide) (by decide) ?_
    refine lv_aload_n hx hb dX6_readItem_116 rfl (lv_at hl 0 rfl) ?_
    refine gf_X6_33 hx hb hown hk w.1 0 rfl rfl dX6_readItem_117 ?_
    refine lv_if_ne (tgt := 134) hx hb dX6_readItem_120 (by decide) (fun c120 => ?_) (fun c120 => ?_)
    · have h := sat_f c120 h
      refine lv_iconst (v := 0) hx hb dX6_readItem_134 (by decide) ?_
      have hR := hC0 _ (sat_some h)
      subst hR
      exact hret _ _ _ _ w dX6_readItem_135
    · have h := sat_t c120 h
      refine lv_aload_n hx hb dX6_readItem_123 rfl (lv_at hl 0 rfl) ?_
      obtain ⟨r_6, e_6, h⟩ := sat_bind h
      refine cMV (rest := []) (wr := [(a4, .inr (3, [.ref a5, .int qlt])), (a5, .inl (cI, 36, .inl qdl))]) (ws' := [(a0, .inr (6, [.ref a1, .ref a3, .ref a4, .int it, .int r_6.2.1, .int r_6.2.2.1, .int r_6.2.2.2.1, .int r_6.2.2.2.2.1])), (a1, .inr (9, [.ref a2, .int tn])), (a2, .inl (cI, 120, .inl tx)), (a3, .inr (7, [.int r_6.2.2.2.2.2, .int qre, .int qrh, .int qra, .int qrl, .int qrf])), (a4, .inr (3, [.ref a5, .int qlt])), (a5, .inl (cI, 36, .inl qdl))]) hx hb hml hown hk w hA (k_X6_readNodes l D cI cZ cK N a0 a1 a3 a4 a2 it kd nu pl nx tn tx qrn qre qrh qra qrl qrf r_6 e_6) (me_X6_readNodes hk.2.1) (mi_X6_readNodes hk.2.1) (ml_X6_56 hk.2.1) ((pmn 6 [0, 1, 2, 3, 4, 5] rfl rfl (by decide))) ((pmn 6 [0, 1, 2, 3, 4, 5] rfl rfl (by decide))) 0 rfl rfl rfl hl.1 rfl rfl (Nat.le_of_ble_eq_true rfl) ⟨rfl, rfl, Nat.le_of_ble_eq_true rfl, Nat.le_of_ble_eq_true rfl, Nat.zero_le _, Nat.zero_le _⟩ dX6_readItem_124 (fun H locs w => ?_)
      refine W.eq (g2 := F0 m 127 ls [.int (b2i r_6.1)]) rfl ?_
      refine lv_if_eq (tgt := 134) hx hb dX6_readItem_127 (by decide) (fun c127 => ?_) (fun c127 => ?_)
      · have h := sat_t c127 h
        refine lv_iconst (v := 0) hx hb dX6_readItem_134 (by decide) ?_
        have hR := hC0 _ (sat_some h)
        subst hR
        exact hret _ _ _ _ w dX6_readItem_135
      · have h := sat_f c127 h
        refine lv_iconst (v := 1) hx hb dX6_readItem_130 (by decide) ?_
        refine lv_goto (tgt := 135) hx hb dX6_readItem_131 (by decide) ?_
        have hR := hC0 _ (sat_some h)
        subst hR
        exact hret _ _ _ _ w dX6_readItem_135
  have h := sat_f c4_110 h
  have nc4_110 := ne_ti (z := 110) c4_110 (by decide)
  by_cases c4_111 : kd = 111
  · have h := sat_f (show ¬ kd = 120 from by rw [c4_111]; decide) h
    refine lv_tableIn (off := 166) (tgt := 170) hx hb dX6_readItem_4 (by rw [c4_111]; decide) (by rw [c4_111]; decide) (by rw [c4_111]; decide) (by decide) ?_
    refine lv_iconst (v := 0) hx hb dX6_readItem_170 (by decide) ?_
    have hR := hC0 _ (sat_some h)
    subst hR
    exact hret _ _ _ _ w dX6_readItem_171
  have nc4_111 := ne_ti (z := 111) c4_111 (by decide)
  by_cases c4_112 : kd = 112
  · have h := sat_f (show ¬ kd = 120 from by rw [c4_112]; decide) h
    refine lv_tableIn (off := 166) (tgt := 170) hx hb dX6_readItem_4 (by rw [c4_112]; decide) (by rw [c4_112]; decide) (by rw [c4_112]; decide) (by decide) ?_
    refine lv_iconst (v := 0) hx hb dX6_readItem_170 (by decide) ?_
    have hR := hC0 _ (sat_some h)
    subst hR
    exact hret _ _ _ _ w dX6_readItem_171
  have nc4_112 := ne_ti (z := 112) c4_112 (by decide)
  by_cases c4_113 : kd = 113
  · have h := sat_f (show ¬ kd = 120 from by rw [c4_113]; decide) h
    refine lv_tableIn (off := 166) (tgt := 170) hx hb dX6_readItem_4 (by rw [c4_113]; decide) (by rw [c4_113]; decide) (by rw [c4_113]; decide) (by decide) ?_
    refine lv_iconst (v := 0) hx hb dX6_readItem_170 (by decide) ?_
    have hR := hC0 _ (sat_some h)
    subst hR
    exact hret _ _ _ _ w dX6_readItem_171
  have nc4_113 := ne_ti (z := 113) c4_113 (by decide)
  by_cases c4_114 : kd = 114
  · have h := sat_f (show ¬ kd = 120 from by rw [c4_114]; decide) h
    refine lv_tableIn (off := 166) (tgt := 170) hx hb dX6_readItem_4 (by rw [c4_114]; decide) (by rw [c4_114]; decide) (by rw [c4_114]; decide) (by decide) ?_
    refine lv_iconst (v := 0) hx hb dX6_readItem_170 (by decide) ?_
    have hR := hC0 _ (sat_some h)
    subst hR
    exact hret _ _ _ _ w dX6_readItem_171
  have nc4_114 := ne_ti (z := 114) c4_114 (by decide)
  by_cases c4_115 : kd = 115
  · have h := sat_f (show ¬ kd = 120 from by rw [c4_115]; decide) h
    refine lv_tableIn (off := 166) (tgt := 170) hx hb dX6_readItem_4 (by rw [c4_115]; decide) (by rw [c4_115]; decide) (by rw [c4_115]; decide) (by decide) ?_
    refine lv_iconst (v := 0) hx hb dX6_readItem_170 (by decide) ?_
    have hR := hC0 _ (sat_some h)
    subst hR
    exact hret _ _ _ _ w dX6_readItem_171
  have nc4_115 := ne_ti (z := 115) c4_115 (by decide)
  by_cases c4_116 : kd = 116
  · have h := sat_f (show ¬ kd = 120 from by rw [c4_116]; decide) h
    refine lv_tableIn (off := 166) (tgt := 170) hx hb dX6_readItem_4 (by rw [c4_116]; decide) (by rw [c4_116]; decide) (by rw [c4_116]; decide) (by decide) ?_
    refine lv_iconst (v := 0) hx hb dX6_readItem_170 (by decide) ?_
    have hR := hC0 _ (sat_some h)
    subst hR
    exact hret _ _ _ _ w dX6_readItem_171
  have nc4_116 := ne_ti (z := 116) c4_116 (by decide)
  by_cases c4_117 : kd = 117
  · have h := sat_f (show ¬ kd = 120 from by rw [c4_117]; decide) h
    refine lv_tableIn (off := 166) (tgt := 170) hx hb dX6_readItem_4 (by rw [c4_117]; decide) (by rw [c4_117]; decide) (by rw [c4_117]; decide) (by decide) ?_
    refine lv_iconst (v := 0) hx hb dX6_readItem_170 (by decide) ?_
    have hR := hC0 _ (sat_some h)
    subst hR
    exact hret _ _ _ _ w dX6_readItem_171
  have nc4_117 := ne_ti (z := 117) c4_117 (by decide)
  by_cases c4_118 : kd = 118
  · have h := sat_f (show ¬ kd = 120 from by rw [c4_118]; decide) h
    refine lv_tableIn (off := 166) (tgt := 170) hx hb dX6_readItem_4 (by rw [c4_118]; decide) (by rw [c4_118]; decide) (by rw [c4_118]; decide) (by decide) ?_
    refine lv_iconst (v := 0) hx hb dX6_readItem_170 (by decide) ?_
    have hR := hC0 _ (sat_some h)
    subst hR
    exact hret _ _ _ _ w dX6_readItem_171
  have nc4_118 := ne_ti (z := 118) c4_118 (by decide)
  by_cases c4_119 : kd = 119
  · have h := sat_f (show ¬ kd = 120 from by rw [c4_119]; decide) h
    refine lv_tableIn (off := 166) (tgt := 170) hx hb dX6_readItem_4 (by rw [c4_119]; decide) (by rw [c4_119]; decide) (by rw [c4_119]; decide) (by decide) ?_
    refine lv_iconst (v := 0) hx hb dX6_readItem_170 (by decide) ?_
    have hR := hC0 _ (sat_some h)
    subst hR
    exact hret _ _ _ _ w dX6_readItem_171
  have nc4_119 := ne_ti (z := 119) c4_119 (by decide)
  by_cases c4_120 : kd = 120
  · have h := sat_t c4_120 h
    refine lv_tableIn (off := 157) (tgt := 161) hx hb dX6_readItem_4 (by rw [c4_120]; decide) (by rw [c4_120]; decide) (by rw [c4_120]; decide) (by decide) ?_
    refine lv_aload_n hx hb dX6_readItem_161 rfl (lv_at hl 0 rfl) ?_
    refine lv_aload_n hx hb dX6_readItem_162 rfl (lv_at hl 0 rfl) ?_
    refine gf_X6_43 hx hb hown hk w.1 0 rfl rfl dX6_readItem_163 ?_
    obtain ⟨r_7, e_7, h⟩ := sat_bind h
    refine cMV (rest := []) (wr := [(a4, .inr (3, [.ref a5, .int qlt])), (a5, .inl (cI, 36, .inl qdl))]) (ws' := [(a0, .inr (6, [.ref a1, .ref a3, .ref a4, .int it, .int r_7.2.1, .int r_7.2.2.1, .int r_7.2.2.2.1, .int r_7.2.2.2.2.1])), (a1, .inr (9, [.ref a2, .int tn])), (a2, .inl (cI, 120, .inl tx)), (a3, .inr (7, [.int qrn, .int r_7.2.2.2.2.2.1, .int r_7.2.2.2.2.2.2.1, .int r_7.2.2.2.2.2.2.2.1, .int r_7.2.2.2.2.2.2.2.2.1, .int r_7.2.2.2.2.2.2.2.2.2])), (a4, .inr (3, [.ref a5, .int qlt])), (a5, .inl (cI, 36, .inl qdl))]) hx hb hml hown hk w hA (k_X6_readRule l D cI cZ cK N a0 a1 a3 a4 a2 it kd nu pl nx tn tx qrn qre qrh qra qrl qrf kd r_7 e_7) (me_X6_readRule hk.2.1) (mi_X6_readRule hk.2.1) (ml_X6_65 hk.2.1) ((pmn 6 [0, 1, 2, 3, 4, 5] rfl rfl (by decide))) ((pmn 6 [0, 1, 2, 3, 4, 5] rfl rfl (by decide))) 0 rfl rfl rfl hl.1 rfl rfl (Nat.le_of_ble_eq_true rfl) ⟨rfl, rfl, Nat.le_of_ble_eq_true rfl, Nat.le_of_ble_eq_true rfl, Nat.zero_le _, Nat.zero_le _⟩ dX6_readItem_166 (fun H locs w => ?_)
    refine W.eq (g2 := F0 m 169 ls [.int (b2i r_7.1)]) rfl ?_
    have hR := hC0 _ (sat_some h)
    subst hR
    exact hret _ _ _ _ w dX6_readItem_169
  have h := sat_f c4_120 h
  have nc4_120 := ne_ti (z := 120) c4_120 (by decide)
  refine lv_tableOut (tgt := 170) hx hb dX6_readItem_4 (by omega) (by decide) ?_
  refine lv_iconst (v := 0) hx hb dX6_readItem_170 (by decide) ?_
  have hR := hC0 _ (sat_some h)
  subst hR
  exact hret _ _ _ _ w dX6_readItem_171
def f_X6_readText_L26 (tx : ar) (tn : Int32) (N : Nat) : Nat → Int32 → Int32 → Int32 → Int32 → Int32 → Int32 → Int32 → Int32 → Int32 → Int32 → Int32 → Int32 → Int32 → ar → Option ((Int32 × Int32 × Int32 × Int32 × Int32 × Int32 × Int32 × Int32 × Int32 × Int32 × Int32 × Int32 × Int32 × ar) ⊕ (Int32 × Int32 × Int32 × Int32 × Int32 × Int32 × Int32 × Int32 × Int32 × Int32 × Int32 × Int32 × ar))
  | 0, _, _, _, _, _, _, _, _, _, _, _, _, _, _ => none
  | n + 1, x1_26, it_26, kd_26, nu_26, pl_26, nx_26, qrn_26, qre_26, qrh_26, qra_26, qrl_26, qrf_26, qlt_26, qdl_26 => if 120 < x1_26 then some (.inr (it_26, kd_26, nu_26, pl_26, nx_26, qrn_26, qre_26, qrh_26, qra_26, qrl_26, qrf_26, qlt_26, qdl_26)) else Option.bind (f_X6_step N tx tn nu_26 nx_26) fun r_3 => if r_3.1 = (-3) then some (.inl ((-1), it_26, r_3.1, r_3.2.1, r_3.2.2.1, r_3.2.2.2, qrn_26, qre_26, qrh_26, qra_26, qrl_26, qrf_26, qlt_26, qdl_26)) else Option.bind (f_X6_readItem N tx tn qrn_26 qre_26 qrh_26 qra_26 qrl_26 qrf_26 qdl_26 qlt_26 it_26 r_3.1 r_3.2.1 r_3.2.2.1 r_3.2.2.2) fun r_4 => if (b2i r_4.1) = 0 then some (.inl (r_4.2.2.2.1, it_26, r_4.2.1, r_4.2.2.1, r_4.2.2.2.1, r_4.2.2.2.2.1, r_4.2.2.2.2.2.1, r_4.2.2.2.2.2.2.1, r_4.2.2.2.2.2.2.2.1, r_4.2.2.2.2.2.2.2.2.1, r_4.2.2.2.2.2.2.2.2.2.1, r_4.2.2.2.2.2.2.2.2.2.2.1, r_4.2.2.2.2.2.2.2.2.2.2.2.1, r_4.2.2.2.2.2.2.2.2.2.2.2.2)) else Option.bind (f_X6_readEnd N tx tn r_4.2.2.1 r_4.2.2.2.2.1) fun r_5 => if (b2i r_5.1) = 0 then some (.inl (r_5.2.2.2.1, it_26, r_5.2.1, r_5.2.2.1, r_5.2.2.2.1, r_5.2.2.2.2, r_4.2.2.2.2.2.1, r_4.2.2.2.2.2.2.1, r_4.2.2.2.2.2.2.2.1, r_4.2.2.2.2.2.2.2.2.1, r_4.2.2.2.2.2.2.2.2.2.1, r_4.2.2.2.2.2.2.2.2.2.2.1, r_4.2.2.2.2.2.2.2.2.2.2.2.1, r_4.2.2.2.2.2.2.2.2.2.2.2.2)) else f_X6_readText_L26 tx tn N n (x1_26 + 1) (it_26 + 1) r_5.2.1 r_5.2.2.1 r_5.2.2.2.1 r_5.2.2.2.2 r_4.2.2.2.2.2.1 r_4.2.2.2.2.2.2.1 r_4.2.2.2.2.2.2.2.1 r_4.2.2.2.2.2.2.2.2.1 r_4.2.2.2.2.2.2.2.2.2.1 r_4.2.2.2.2.2.2.2.2.2.2.1 r_4.2.2.2.2.2.2.2.2.2.2.2.1 r_4.2.2.2.2.2.2.2.2.2.2.2.2
def f_X6_readText (N : Nat) (tx : ar) (tn : Int32) (kd : Int32) (nu : Int32) (pl : Int32) : Option (Int32 × Int32 × Int32 × Int32 × Int32 × Int32 × Int32 × Int32 × Int32 × Int32 × Int32 × Int32 × Int32 × ar) := Option.bind (f_X7_restart) fun r_1 => Option.bind (f_X3_restart) fun r_2 => lb (f_X6_readText_L26 tx tn N N 0 0 kd nu pl 0 r_1.1 r_1.2.1 r_1.2.2.1 r_1.2.2.2.1 r_1.2.2.2.2.1 r_1.2.2.2.2.2 r_2.1 r_2.2) fun s26 => some (s26.2.2.2.1, s26.1, s26.2.1, s26.2.2.1, s26.2.2.2.1, s26.2.2.2.2.1, s26.2.2.2.2.2.1, s26.2.2.2.2.2.2.1, s26.2.2.2.2.2.2.2.1, s26.2.2.2.2.2.2.2.2.1, s26.2.2.2.2.2.2.2.2.2.1, s26.2.2.2.2.2.2.2.2.2.2.1, s26.2.2.2.2.2.2.2.2.2.2.2.1, s26.2.2.2.2.2.2.2.2.2.2.2.2)
abbrev rm_X6_readText : Room := { frames := 6, cells := 0, slots := 0, locals := 125 }
set_option maxRecDepth 100000 in
set_option maxHeartbeats 4000000 in
theorem k_X6_readText (l : Launch) (D : va_G) (cI cZ cK : ClassId) (N : Nat) (a0 a1 a3 a4 a2 a5 : Nat) (it : Int32) (kd : Int32) (nu : Int32) (pl : Int32) (nx : Int32) (tn : Int32) (tx : ar) (qrn : Int32) (qre : Int32) (qrh : Int32) (qra : Int32) (qrl : Int32) (qrf : Int32) (qlt : Int32) (qdl : ar) (R : Int32 × Int32 × Int32 × Int32 × Int32 × Int32 × Int32 × Int32 × Int32 × Int32 × Int32 × Int32 × Int32 × ar) (h : f_X6_readText N tx tn kd nu pl = some R) : Mu l D cI cZ cK yX6_readText cX6_readText 2 (some .int) rm_X6_readText [.ref a0] [(a0, .inr (6, [.ref a1, .ref a3, .ref a4, .int it, .int kd, .int nu, .int pl, .int nx])), (a1, .inr (9, [.ref a2, .int tn])), (a2, .inl (cI, 120, .inl tx)), (a3, .inr (7, [.int qrn, .int qre, .int qrh, .int qra, .int qrl, .int qrf])), (a4, .inr (3, [.ref a5, .int qlt])), (a5, .inl (cI, 36, .inl qdl))] (some (.int R.1)) [(a0, .inr (6, [.ref a1, .ref a3, .ref a4, .int R.2.1, .int R.2.2.1, .int R.2.2.2.1, .int R.2.2.2.2.1, .int R.2.2.2.2.2.1])), (a1, .inr (9, [.ref a2, .int tn])), (a2, .inl (cI, 120, .inl tx)), (a3, .inr (7, [.int R.2.2.2.2.2.2.1, .int R.2.2.2.2.2.2.2.1, .int R.2.2.2.2.2.2.2.2.1, .int R.2.2.2.2.2.2.2.2.2.1, .int R.2.2.2.2.2.2.2.2.2.2.1, .int R.2.2.2.2.2.2.2.2.2.2.2.1])), (a4, .inr (3, [.ref a5, .int R.2.2.2.2.2.2.2.2.2.2.2.2.1])), (a5, .inl (cI, 36, .inl R.2.2.2.2.2.2.2.2.2.2.2.2.2))] := by
  refine mi_of (by decide) (vp_nar_int _) (Nat.le_of_ble_eq_true rfl) ?_
  intro p e s m args below meth c Q A ls hx hb hml hown hk hA w hret hl
  have hl : lv_has ls 2 [(0, .ref a0)] := hl
  obtain ⟨C0, hC0, h⟩ := sat_top h
  unfold f_X6_readText at h
  refine lv_aload_n hx hb dX6_readText_0 rfl (lv_at hl 0 rfl) ?_
  refine gf_X6_12 hx hb hown hk w.1 0 rfl rfl dX6_readText_1 ?_
  obtain ⟨r_1, e_1, h⟩ := sat_bind h
  refine cMV (rest := []) (wr := [(a0, .inr (6, [.ref a1, .ref a3, .ref a4, .int it, .int kd, .int nu, .int pl, .int nx])), (a1, .inr (9, [.ref a2, .int tn])), (a2, .inl (cI, 120, .inl tx)), (a4, .inr (3, [.ref a5, .int qlt])), (a5, .inl (cI, 36, .inl qdl))]) (ws' := [(a0, .inr (6, [.ref a1, .ref a3, .ref a4, .int it, .int kd, .int nu, .int pl, .int nx])), (a1, .inr (9, [.ref a2, .int tn])), (a2, .inl (cI, 120, .inl tx)), (a3, .inr (7, [.int r_1.1, .int r_1.2.1, .int r_1.2.2.1, .int r_1.2.2.2.1, .int r_1.2.2.2.2.1, .int r_1.2.2.2.2.2])), (a4, .inr (3, [.ref a5, .int qlt])), (a5, .inl (cI, 36, .inl qdl))]) hx hb hml hown hk w hA (k_X7_restart l D cI cZ cK a3 qrn qre qrh qra qrl qrf r_1 e_1) (me_X7_restart hk.2.1) (mi_X7_restart hk.2.1) (ml_X6_29 hk.2.1) ((pmn 6 [3, 0, 1, 2, 4, 5] rfl rfl (by decide))) ((pmn 6 [1, 2, 3, 0, 4, 5] rfl rfl (by decide))) 0 rfl rfl rfl hl.1 rfl rfl (Nat.le_of_ble_eq_true rfl) ⟨rfl, rfl, Nat.le_of_ble_eq_true rfl, Nat.le_of_ble_eq_true rfl, Nat.zero_le _, Nat.zero_le _⟩ dX6_readText_4 (fun H locs w => ?_)
  refine W.eq (g2 := F0 m 7 ls []) rfl ?_
  refine lv_aload_n hx hb dX6_readText_7 rfl (lv_at hl 0 rfl) ?_
  refine gf_X6_21 hx hb hown hk w.1 0 rfl rfl dX6_readText_8 ?_
  obtain ⟨r_2, e_2, h⟩ := sat_bind h
  refine cMV (rest := []) (wr := [(a0, .inr (6, [.ref a1, .ref a3, .ref a4, .int it, .int kd, .int nu, .int pl, .int nx])), (a1, .inr (9, [.ref a2, .int tn])), (a2, .inl (cI, 120, .inl tx)), (a3, .inr (7, [.int r_1.1, .int r_1.2.1, .int r_1.2.2.1, .int r_1.2.2.2.1, .int r_1.2.2.2.2.1, .int r_1.2.2.2.2.2]))]) (ws' := [(a0, .inr (6, [.ref a1, .ref a3, .ref a4, .int it, .int kd, .int nu, .int pl, .int nx])), (a1, .inr (9, [.ref a2, .int tn])), (a2, .inl (cI, 120, .inl tx)), (a3, .inr (7, [.int r_1.1, .int r_1.2.1, .int r_1.2.2.1, .int r_1.2.2.2.1, .int r_1.2.2.2.2.1, .int r_1.2.2.2.2.2])), (a4, .inr (3, [.ref a5, .int r_2.1])), (a5, .inl (cI, 36, .inl r_2.2))]) hx hb hml hown hk w hA (k_X3_restart l D cI cZ cK a4 a5 qlt qdl r_2 e_2) (me_X3_restart hk.2.1) (mi_X3_restart hk.2.1) (ml_X6_32 hk.2.1) ((pmn 6 [4, 5, 0, 1, 2, 3] rfl rfl (by decide))) ((pmn 6 [2, 3, 4, 5, 0, 1] rfl rfl (by decide))) 0 rfl rfl rfl hl.1 rfl rfl (Nat.le_of_ble_eq_true rfl) ⟨rfl, rfl, Nat.le_of_ble_eq_true rfl, Nat.le_of_ble_eq_true rfl, Nat.zero_le _, Nat.zero_le _⟩ dX6_readText_11 (fun H locs w => ?_)
  refine W.eq (g2 := F0 m 14 ls []) rfl ?_
  refine lv_aload_n hx hb dX6_readText_14 rfl (lv_at hl 0 rfl) ?_
  refine lv_iconst (v := 0) hx hb dX6_readText_15 (by decide) ?_
  refine pf_X6_33 (ws' := [(a0, .inr (6, [.ref a1, .ref a3, .ref a4, .int 0, .int kd, .int nu, .int pl, .int nx])), (a1, .inr (9, [.ref a2, .int tn])), (a2, .inl (cI, 120, .inl tx)), (a3, .inr (7, [.int r_1.1, .int r_1.2.1, .int r_1.2.2.1, .int r_1.2.2.2.1, .int r_1.2.2.2.2.1, .int r_1.2.2.2.2.2])), (a4, .inr (3, [.ref a5, .int r_2.1])), (a5, .inl (cI, 36, .inl r_2.2))]) hx hb hown hk w 0 rfl (Nat.le_of_ble_eq_true rfl) rfl dX6_readText_16 (fun H locs w => ?_)
  refine lv_aload_n hx hb dX6_readText_19 rfl (lv_at hl 0 rfl) ?_
  refine lv_iconst (v := 0) hx hb dX6_readText_20 (by decide) ?_
  refine pf_X6_37 (ws' := [(a0, .inr (6, [.ref a1, .ref a3, .ref a4, .int 0, .int kd, .int nu, .int pl, .int 0])), (a1, .inr (9, [.ref a2, .int tn])), (a2, .inl (cI, 120, .inl tx)), (a3, .inr (7, [.int r_1.1, .int r_1.2.1, .int r_1.2.2.1, .int r_1.2.2.2.1, .int r_1.2.2.2.2.1, .int r_1.2.2.2.2.2])), (a4, .inr (3, [.ref a5, .int r_2.1])), (a5, .inl (cI, 36, .inl r_2.2))]) hx hb hown hk w 0 rfl (Nat.le_of_ble_eq_true rfl) rfl dX6_readText_21 (fun H locs w => ?_)
  refine lv_iconst (v := 0) hx hb dX6_readText_24 (by decide) ?_
  refine lv_istore_n (lv' := [(1, .int 0), (0, .ref a0)]) hx hb dX6_readText_25 rfl hl (by decide) rfl (fun ls hl => ?_)
  obtain ⟨T26, hr26, hT26, h⟩ := sat_lbr h
  have E26 : ∀ (it_6 : Int32) (kd_7 : Int32) (nu_8 : Int32) (pl_9 : Int32) (nx_10 : Int32) (qrn_11 : Int32) (qre_12 : Int32) (qrh_13 : Int32) (qra_14 : Int32) (qrl_15 : Int32) (qrf_16 : Int32) (qlt_17 : Int32) (qdl_18 : ar) (H : Heap) (locs : List Loc) (ls : Array Slot), T26 (.inr (it_6, kd_7, nu_8, pl_9, nx_10, qrn_11, qre_12, qrh_13, qra_14, qrl_15, qrf_16, qlt_17, qdl_18)) → wd D A s.heap H locs [(a0, .inr (6, [.ref a1, .ref a3, .ref a4, .int it_6, .int kd_7, .int nu_8, .int pl_9, .int nx_10])), (a1, .inr (9, [.ref a2, .int tn])), (a2, .inl (cI, 120, .inl tx)), (a3, .inr (7, [.int qrn_11, .int qre_12, .int qrh_13, .int qra_14, .int qrl_15, .int qrf_16])), (a4, .inr (3, [.ref a5, .int qlt_17])), (a5, .inl (cI, 36, .inl qdl_18))] → lv_has ls 2 [(0, .ref a0)] → W p l e rm_X6_readText s m args below meth c H locs 0 0 Q (F0 m 82 ls []) := by
    intro it_6 kd_7 nu_8 pl_9 nx_10 qrn_11 qre_12 qrh_13 qra_14 qrl_15 qrf_16 qlt_17 qdl_18 H locs ls h w hl
    have h := hT26 _ h
    dsimp only at h
    refine lv_aload_n hx hb dX6_readText_82 rfl (lv_at hl 0 rfl) ?_
    refine gf_X6_53 hx hb hown hk w.1 0 rfl rfl dX6_readText_83 ?_
    have hR := hC0 _ (sat_some h)
    subst hR
    exact hret _ _ _ _ w dX6_readText_86
  have L26 : ∀ (n : Nat) (x1_26 : Int32) (it_26 : Int32) (kd_26 : Int32) (nu_26 : Int32) (pl_26 : Int32) (nx_26 : Int32) (qrn_26 : Int32) (qre_26 : Int32) (qrh_26 : Int32) (qra_26 : Int32) (qrl_26 : Int32) (qrf_26 : Int32) (qlt_26 : Int32) (qdl_26 : ar) (H : Heap) (locs : List Loc) (ls : Array Slot), sat (f_X6_readText_L26 tx tn N n x1_26 it_26 kd_26 nu_26 pl_26 nx_26 qrn_26 qre_26 qrh_26 qra_26 qrl_26 qrf_26 qlt_26 qdl_26) T26 → wd D A s.heap H locs [(a0, .inr (6, [.ref a1, .ref a3, .ref a4, .int it_26, .int kd_26, .int nu_26, .int pl_26, .int nx_26])), (a1, .inr (9, [.ref a2, .int tn])), (a2, .inl (cI, 120, .inl tx)), (a3, .inr (7, [.int qrn_26, .int qre_26, .int qrh_26, .int qra_26, .int qrl_26, .int qrf_26])), (a4, .inr (3, [.ref a5, .int qlt_26])), (a5, .inl (cI, 36, .inl qdl_26))] → lv_has ls 2 [(0, .ref a0), (1, .int x1_26)] → W p l e rm_X6_readText s m args below meth c H locs 0 0 Q (F0 m 26 ls []) := by
    intro n
    induction n with
    | zero =>
      intro x1_26 it_26 kd_26 nu_26 pl_26 nx_26 qrn_26 qre_26 qrh_26 qra_26 qrl_26 qrf_26 qlt_26 qdl_26 H locs ls h
      rw [f_X6_readText_L26] at h
      exact (sat_none h).elim
    | succ n ih =>
      intro x1_26 it_26 kd_26 nu_26 pl_26 nx_26 qrn_26 qre_26 qrh_26 qra_26 qrl_26 qrf_26 qlt_26 qdl_26 H locs ls h w hl
      rw [f_X6_readText_L26] at h
      refine lv_iload_n hx hb dX6_readText_26 rfl (lv_at hl 1 rfl) ?_
      refine lv_bipush (v := 120) hx hb dX6_readText_27 (by decide) ?_
      refine lv_icmp_gt (tgt := 82) hx hb dX6_readText_29 (by decide) (fun c29 => ?_) (fun c29 => ?_)
      · have h := sat_t c29 h
        exact E26 it_26 kd_26 nu_26 pl_26 nx_26 qrn_26 qre_26 qrh_26 qra_26 qrl_26 qrf_26 qlt_26 qdl_26 _ _ _ (sat_some h) w (lv_sub hl [0] rfl)
      · have h := sat_f c29 h
        refine lv_aload_n hx hb dX6_readText_32 rfl (lv_at hl 0 rfl) ?_
        obtain ⟨r_3, e_3, h⟩ := sat_bind h
        refine cMV (rest := []) (wr := [(a3, .inr (7, [.int qrn_26, .int qre_26, .int qrh_26, .int qra_26, .int qrl_26, .int qrf_26])), (a4, .inr (3, [.ref a5, .int qlt_26])), (a5, .inl (cI, 36, .inl qdl_26))]) (ws' := [(a0, .inr (6, [.ref a1, .ref a3, .ref a4, .int it_26, .int r_3.1, .int r_3.2.1, .int r_3.2.2.1, .int r_3.2.2.2])), (a1, .inr (9, [.ref a2, .int tn])), (a2, .inl (cI, 120, .inl tx)), (a3, .inr (7, [.int qrn_26, .int qre_26, .int qrh_26, .int qra_26, .int qrl_26, .int qrf_26])), (a4, .inr (3, [.ref a5, .int qlt_26])), (a5, .inl (cI, 36, .inl qdl_26))]) hx hb hml hown hk w hA (k_X6_step l D cI cZ cK N a0 a1 a3 a4 a2 it_26 kd_26 nu_26 pl_26 nx_26 tn tx r_3 e_3) (me_X6_step hk.2.1) (mi_X6_step hk.2.1) (ml_X6_40 hk.2.1) ((pmn 6 [0, 1, 2, 3, 4, 5] rfl rfl (by decide))) ((pmn 6 [0, 1, 2, 3, 4, 5] rfl rfl (by decide))) 0 rfl rfl rfl hl.1 rfl rfl (Nat.le_of_ble_eq_true rfl) ⟨rfl, rfl, Nat.le_of_ble_eq_true rfl, Nat.le_of_ble_eq_true rfl, Nat.zero_le _, Nat.zero_le _⟩ dX6_readText_33 (fun H locs w => ?_)
        refine W.eq (g2 := F0 m 36 ls []) rfl ?_
        refine lv_aload_n hx hb dX6_readText_36 rfl (lv_at hl 0 rfl) ?_
        refine gf_X6_43 hx hb hown hk w.1 0 rfl rfl dX6_readText_37 ?_
        refine lv_bipush (v := (-3)) hx hb dX6_readText_40 (by decide) ?_
        refine lv_icmp_ne (tgt := 47) hx hb dX6_readText_42 (by decide) (fun c42 => ?_) (fun c42 => ?_)
        · have h := sat_f c42 h
          refine lv_aload_n hx hb dX6_readText_47 rfl (lv_at hl 0 rfl) ?_
          obtain ⟨r_4, e_4, h⟩ := sat_bind h
          refine cMV (rest := []) (wr := []) (ws' := [(a0, .inr (6, [.ref a1, .ref a3, .ref a4, .int it_26, .int r_4.2.1, .int r_4.2.2.1, .int r_4.2.2.2.1, .int r_4.2.2.2.2.1])), (a1, .inr (9, [.ref a2, .int tn])), (a2, .inl (cI, 120, .inl tx)), (a3, .inr (7, [.int r_4.2.2.2.2.2.1, .int r_4.2.2.2.2.2.2.1, .int r_4.2.2.2.2.2.2.2.1, .int r_4.2.2.2.2.2.2.2.2.1, .int r_4.2.2.2.2.2.2.2.2.2.1, .int r_4.2.2.2.2.2.2.2.2.2.2.1])), (a4, .inr (3, [.ref a5, .int r_4.2.2.2.2.2.2.2.2.2.2.2.1])), (a5, .inl (cI, 36, .inl r_4.2.2.2.2.2.2.2.2.2.2.2.2))]) hx hb hml hown hk w hA (k_X6_readItem l D cI cZ cK N a0 a1 a3 a4 a2 a5 it_26 r_3.1 r_3.2.1 r_3.2.2.1 r_3.2.2.2 tn tx qrn_26 qre_26 qrh_26 qra_26 qrl_26 qrf_26 qlt_26 qdl_26 r_4 e_4) (me_X6_readItem hk.2.1) (mi_X6_readItem hk.2.1) (ml_X6_46 hk.2.1) ((pmn 6 [0, 1, 2, 3, 4, 5] rfl rfl (by decide))) ((pmn 6 [0, 1, 2, 3, 4, 5] rfl rfl (by decide))) 0 rfl rfl rfl hl.1 rfl rfl (Nat.le_of_ble_eq_true rfl) ⟨rfl, rfl, Nat.le_of_ble_eq_true rfl, Nat.le_of_ble_eq_true rfl, Nat.zero_le _, Nat.zero_le _⟩ dX6_readText_48 (fun H locs w => ?_)
          refine W.eq (g2 := F0 m 51 ls [.int (b2i r_4.1)]) rfl ?_
          refine lv_if_eq (tgt := 61) hx hb dX6_readText_51 (by decide) (fun c51 => ?_) (fun c51 => ?_)
          · have h := sat_t c51 h
            refine lv_aload_n hx hb dX6_readText_61 rfl (lv_at hl 0 rfl) ?_
            refine gf_X6_53 hx hb hown hk w.1 0 rfl rfl dX6_readText_62 ?_
            have hR := hC0 _ (hr26 _ (sat_some h))
            subst hR
            exact hret _ _ _ _ w dX6_readText_65
          · have h := sat_f c51 h
            refine lv_aload_n hx hb dX6_readText_54 rfl (lv_at hl 0 rfl) ?_
            obtain ⟨r_5, e_5, h⟩ := sat_bind h
            refine cMV (rest := []) (wr := [(a3, .inr (7, [.int r_4.2.2.2.2.2.1, .int r_4.2.2.2.2.2.2.1, .int r_4.2.2.2.2.2.2.2.1, .int r_4.2.2.2.2.2.2.2.2.1, .int r_4.2.2.2.2.2.2.2.2.2.1, .int r_4.2.2.2.2.2.2.2.2.2.2.1])), (a4, .inr (3, [.ref a5, .int r_4.2.2.2.2.2.2.2.2.2.2.2.1])), (a5, .inl (cI, 36, .inl r_4.2.2.2.2.2.2.2.2.2.2.2.2))]) (ws' := [(a0, .inr (6, [.ref a1, .ref a3, .ref a4, .int it_26, .int r_5.2.1, .int r_5.2.2.1, .int r_5.2.2.2.1, .int r_5.2.2.2.2])), (a1, .inr (9, [.ref a2, .int tn])), (a2, .inl (cI, 120, .inl tx)), (a3, .inr (7, [.int r_4.2.2.2.2.2.1, .int r_4.2.2.2.2.2.2.1, .int r_4.2.2.2.2.2.2.2.1, .int r_4.2.2.2.2.2.2.2.2.1, .int r_4.2.2.2.2.2.2.2.2.2.1, .int r_4.2.2.2.2.2.2.2.2.2.2.1])), (a4, .inr (3, [.ref a5, .int r_4.2.2.2.2.2.2.2.2.2.2.2.1])), (a5, .inl (cI, 36, .inl r_4.2.2.2.2.2.2.2.2.2.2.2.2))]) hx hb hml hown hk w hA (k_X6_readEnd l D cI cZ cK N a0 a1 a3 a4 a2 it_26 r_4.2.1 r_4.2.2.1 r_4.2.2.2.1 r_4.2.2.2.2.1 tn tx r_5 e_5) (me_X6_readEnd hk.2.1) (mi_X6_readEnd hk.2.1) (ml_X6_50 hk.2.1) ((pmn 6 [0, 1, 2, 3, 4, 5] rfl rfl (by decide))) ((pmn 6 [0, 1, 2, 3, 4, 5] rfl rfl (by decide))) 0 rfl rfl rfl hl.1 rfl rfl (Nat.le_of_ble_eq_true rfl) ⟨rfl, rfl, Nat.le_of_ble_eq_true rfl, Nat.le_of_ble_eq_true rfl, Nat.zero_le _, Nat.zero_le _⟩ dX6_readText_55 (fun H locs w => ?_)
            refine W.eq (g2 := F0 m 58 ls [.int (b2i r_5.1)]) rfl ?_
            refine lv_if_ne (tgt := 66) hx hb dX6_readText_58 (by decide) (fun c58 => ?_) (fun c58 => ?_)
            · have h := sat_f c58 h
              refine lv_aload_n hx hb dX6_readText_66 rfl (lv_at hl 0 rfl) ?_
              refine lv_dup hx hb dX6_readText_67 rfl ?_
              refine gf_X6_33 hx hb hown hk w.1 0 rfl rfl dX6_readText_68 ?_
              refine lv_iconst (v := 1) hx hb dX6_readText_71 (by decide) ?_
              refine lv_iadd hx hb dX6_readText_72 ?_
              refine pf_X6_33 (ws' := [(a0, .inr (6, [.ref a1, .ref a3, .ref a4, .int (it_26 + 1), .int r_5.2.1, .int r_5.2.2.1, .int r_5.2.2.2.1, .int r_5.2.2.2.2])), (a1, .inr (9, [.ref a2, .int tn])), (a2, .inl (cI, 120, .inl tx)), (a3, .inr (7, [.int r_4.2.2.2.2.2.1, .int r_4.2.2.2.2.2.2.1, .int r_4.2.2.2.2.2.2.2.1, .int r_4.2.2.2.2.2.2.2.2.1, .int r_4.2.2.2.2.2.2.2.2.2.1, .int r_4.2.2.2.2.2.2.2.2.2.2.1])), (a4, .inr (3, [.ref a5, .int r_4.2.2.2.2.2.2.2.2.2.2.2.1])), (a5, .inl (cI, 36, .inl r_4.2.2.2.2.2.2.2.2.2.2.2.2))]) hx hb hown hk w 0 rfl (Nat.le_of_ble_eq_true rfl) rfl dX6_readText_73 (fun H locs w => ?_)
              refine lv_iinc (v := x1_26 + 1) (lv' := [(1, .int (x1_26 + 1)), (0, .ref a0)]) hx hb dX6_readText_76 hl (k := 1) rfl (congrArg (fun z => x1_26 + z) (by decide)) (by decide) rfl (fun ls hl => ?_)
              refine lv_goto (tgt := 26) hx hb dX6_readText_79 (by decide) ?_
              exact ih (x1_26 + 1) (it_26 + 1) r_5.2.1 r_5.2.2.1 r_5.2.2.2.1 r_5.2.2.2.2 r_4.2.2.2.2.2.1 r_4.2.2.2.2.2.2.1 r_4.2.2.2.2.2.2.2.1 r_4.2.2.2.2.2.2.2.2.1 r_4.2.2.2.2.2.2.2.2.2.1 r_4.2.2.2.2.2.2.2.2.2.2.1 r_4.2.2.2.2.2.2.2.2.2.2.2.1 r_4.2.2.2.2.2.2.2.2.2.2.2.2 _ _ _ h w (lv_sub hl [1, 0] rfl)
            · have h := sat_t c58 h
              refine lv_aload_n hx hb dX6_readText_61 rfl (lv_at hl 0 rfl) ?_
              refine gf_X6_53 hx hb hown hk w.1 0 rfl rfl dX6_readText_62 ?_
              have hR := hC0 _ (hr26 _ (sat_some h))
              subst hR
              exact hret _ _ _ _ w dX6_readText_65
        · have h := sat_t c42 h
          refine lv_iconst (v := (-1)) hx hb dX6_readText_45 (by decide) ?_
          have hR := hC0 _ (hr26 _ (sat_some h))
          subst hR
          exact hret _ _ _ _ w dX6_readText_46
  exact L26 N 0 0 kd nu pl 0 r_1.1 r_1.2.1 r_1.2.2.1 r_1.2.2.2.1 r_1.2.2.2.2.1 r_1.2.2.2.2.2 r_2.1 r_2.2 _ _ _ h w (lv_sub hl [1, 0] rfl)
