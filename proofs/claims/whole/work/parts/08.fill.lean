theorem cell_congr {cI : ClassId} {n : Nat} {f g : Nat → Int32} (h : ∀ j, j < n → f j = g j) : vp_cell cI (n, .inl f) = vp_cell cI (n, .inl g) := by
  rw [vp_cell_i, vp_cell_i]
  unfold arrV
  congr 1
  apply Array.ext
  · simp
  · intro i h1 h2
    simp at h1
    simp [h i h1]
abbrev rm_fill : Room := { frames := 0, cells := 0, slots := 0, locals := 0 }
set_option maxRecDepth 100000 in
set_option maxHeartbeats 4000000 in
theorem k_fill (l : Launch) (D : va_G) (cI cZ cK : ClassId) (b0 n0 : Nat) (hn0 : n0 < 2147483648) (f0 : ar) (x1 : Int32) : Mu l D cI cZ cK yJ7_fill_53178 cJ7_fill_53178 4 none rm_fill [.ref b0, .int x1] [(b0, .inl (cI, n0, .inl f0))] none [(b0, .inl (cI, n0, .inl (fun _ => x1)))] := by
  refine mv_of (by decide) (Nat.le_of_ble_eq_true rfl) ?_
  intro p e s m args below meth c Q A ls hx hb hml hown hk hA w hret hl
  have hl : lv_has ls 4 [(0, .ref b0), (1, .int x1)] := hl
  refine lv_iconst (v := 0) hx hb dJ7_fill_53178_0 (by decide) ?_
  refine lv_istore_n (lv' := [(2, .int 0), (0, .ref b0), (1, .int x1)]) hx hb dJ7_fill_53178_1 rfl hl (by decide) rfl (fun ls hl => ?_)
  refine lv_aload_n hx hb dJ7_fill_53178_2 rfl (lv_at hl 1 rfl) ?_
  refine va_alen (v := nI n0) hx hb hk.1 w.1 0 0 rfl rfl rfl dJ7_fill_53178_3 ?_
  refine lv_istore_n (lv' := [(3, .int (nI n0)), (2, .int 0), (0, .ref b0), (1, .int x1)]) hx hb dJ7_fill_53178_4 rfl hl (by decide) rfl (fun ls hl => ?_)
  have L5 : ∀ (n i : Nat) (f : ar) (H : Heap) (locs : List Loc) (ls : Array Slot), i + n = n0 → (∀ j, j < i → f j = x1) → wd D A s.heap H locs [(b0, .inl (cI, n0, .inl f))] → lv_has ls 4 [(0, .ref b0), (1, .int x1), (2, .int (nI i)), (3, .int (nI n0))] → W p l e rm_fill s m args below meth c H locs 0 0 Q (F0 m 5 ls []) := by
    intro n
    induction n with
    | zero =>
      intro i f H locs ls hi hf w hl
      refine lv_iload_n hx hb dJ7_fill_53178_5 rfl (lv_at hl 2 rfl) ?_
      refine lv_iload_n hx hb dJ7_fill_53178_6 rfl (lv_at hl 3 rfl) ?_
      refine lv_icmp_ge (tgt := 20) hx hb dJ7_fill_53178_7 (by decide) (fun c7 => ?_) (fun c7 => ?_)
      · refine hret 20 _ H locs ⟨fun k q hq => ?_, ⟨fun i j p q hp hq e => ?_, fun k q hq => ?_⟩, w.2.2⟩ dJ7_fill_53178_20
        · match k, hq with
          | 0, hq =>
            cases hq
            have h1 := w.1 0 _ rfl
            show H[b0]? = some (vp_cell cI (n0, .inl (fun _ => x1)))
            rw [← cell_congr (f := f) (fun j hj => hf j (by omega))]
            exact h1
        · match i, j, hp, hq with
          | 0, 0, _, _ => rfl
        · match k, hq with
          | 0, hq =>
            cases hq
            exact w.2.1.2 0 (b0, .inl (cI, n0, .inl f)) rfl
      · exact absurd (nI_le (by omega) (by omega)) c7
    | succ n ih =>
      intro i f H locs ls hi hf w hl
      refine lv_iload_n hx hb dJ7_fill_53178_5 rfl (lv_at hl 2 rfl) ?_
      refine lv_iload_n hx hb dJ7_fill_53178_6 rfl (lv_at hl 3 rfl) ?_
      refine lv_icmp_ge (tgt := 20) hx hb dJ7_fill_53178_7 (by decide) (fun c7 => ?_) (fun c7 => ?_)
      · exact absurd c7 (nI_ge (by omega) (by omega))
      · refine lv_aload_n hx hb dJ7_fill_53178_10 rfl (lv_at hl 0 rfl) ?_
        refine lv_iload_n hx hb dJ7_fill_53178_11 rfl (lv_at hl 2 rfl) ?_
        refine lv_iload_n hx hb dJ7_fill_53178_12 rfl (lv_at hl 1 rfl) ?_
        refine ra_ist (ws' := [(b0, .inl (cI, n0, .inl (upd f (nI i).toNatClampNeg x1)))]) hx hb hk w 0 rfl (vp_in_nI (by omega) (by omega)) rfl dJ7_fill_53178_13 (fun H locs w => ?_)
        refine lv_iinc (v := nI (i + 1)) (lv' := [(2, .int (nI (i + 1))), (0, .ref b0), (1, .int x1), (3, .int (nI n0))]) hx hb dJ7_fill_53178_14 hl (k := 2) rfl (nI_1 i) (by decide) rfl (fun ls hl => ?_)
        refine lv_goto (tgt := 5) hx hb dJ7_fill_53178_17 (by decide) ?_
        refine ih (i + 1) _ H locs _ (by omega) (fun j hj => ?_) w (lv_sub hl [1, 2, 0, 3] rfl)
        rw [nI_clamp (by omega)]
        by_cases e : j = i
        · rw [e]; exact pk_us
        · rw [pk_un e]; exact hf j (by omega)
  exact L5 n0 0 f0 _ _ _ (by omega) (fun j hj => by omega) w (lv_sub hl [2, 3, 1, 0] rfl)
