/-! a layer of our own: checked functions, worlds, contracts, calls -/
abbrev ar : Type := Nat → Int32
def inb (i : Int32) (n : Nat) : Bool := decide (¬ (i < 0 ∨ n ≤ i.toNatClampNeg))
def nz (y : Int32) : Bool := decide (¬ y = 0)
def ck {α : Type} (b : Bool) (x : Option α) : Option α := match b with
  | true => x
  | false => none
def b2i (b : Bool) : Int32 := match b with
  | true => 1
  | false => 0
def sat {α : Type} (x : Option α) (C : α → Prop) : Prop := ∃ a, x = some a ∧ C a
def lb {ρ σ : Type} (x : Option (ρ ⊕ σ)) (k : σ → Option ρ) : Option ρ := match x with
  | none => none
  | some (.inl r) => some r
  | some (.inr s) => k s
theorem sat_in {α : Type} {i : Int32} {n : Nat} {x : Option α} {C : α → Prop} (h : sat (ck (inb i n) x) C) : vp_in i n ∧ sat x C := by
  by_cases hb : vp_in i n
  · refine ⟨hb, ?_⟩
    have e : inb i n = true := decide_eq_true hb
    rw [e] at h
    exact h
  · have e : inb i n = false := decide_eq_false hb
    rw [e] at h
    obtain ⟨a, h1, -⟩ := h
    cases h1
theorem sat_nz {α : Type} {y : Int32} {x : Option α} {C : α → Prop} (h : sat (ck (nz y) x) C) : (¬ y = 0) ∧ sat x C := by
  by_cases hb : ¬ y = 0
  · refine ⟨hb, ?_⟩
    have e : nz y = true := decide_eq_true hb
    rw [e] at h
    exact h
  · have e : nz y = false := decide_eq_false hb
    rw [e] at h
    obtain ⟨a, h1, -⟩ := h
    cases h1
theorem sat_bind {α β : Type} {x : Option α} {g : α → Option β} {C : β → Prop} (h : sat (x.bind g) C) : ∃ r, x = some r ∧ sat (g r) C := by
  obtain ⟨a, h1, h2⟩ := h
  cases x with
  | none => cases h1
  | some r => exact ⟨r, rfl, a, h1, h2⟩
theorem sat_t {α : Type} {c : Prop} [Decidable c] {A B : Option α} {C : α → Prop} (hc : c) (h : sat (if c then A else B) C) : sat A C := by
  rw [if_pos hc] at h
  exact h
theorem sat_f {α : Type} {c : Prop} [Decidable c] {A B : Option α} {C : α → Prop} (hc : ¬ c) (h : sat (if c then A else B) C) : sat B C := by
  rw [if_neg hc] at h
  exact h
theorem sat_some {α : Type} {a : α} {C : α → Prop} (h : sat (some a) C) : C a := by
  obtain ⟨b, h1, h2⟩ := h
  cases h1
  exact h2
theorem sat_none {α : Type} {C : α → Prop} (h : sat (none : Option α) C) : False := by
  obtain ⟨b, h1, h2⟩ := h
  cases h1
theorem sat_lb {ρ σ : Type} {x : Option (ρ ⊕ σ)} {k : σ → Option ρ} {C : ρ → Prop} (h : sat (lb x k) C) : sat x (fun a => Sum.elim C (fun s => sat (k s) C) a) := by
  obtain ⟨a, h1, h2⟩ := h
  cases x with
  | none => cases h1
  | some r =>
    cases r with
    | inl r =>
      cases h1
      exact ⟨.inl _, rfl, h2⟩
    | inr r => exact ⟨.inr r, rfl, a, h1, h2⟩
theorem sat_reg {α β : Type} {x : Option α} {g : α → Option β} {C : β → Prop} (h : sat (x.bind g) C) : ∃ T : α → Prop, (∀ j, T j → sat (g j) C) ∧ sat x T := by
  obtain ⟨r, h1, h2⟩ := sat_bind h
  exact ⟨fun j => sat (g j) C, fun _ h => h, r, h1, h2⟩
theorem sat_lbr {ρ σ : Type} {x : Option (ρ ⊕ σ)} {k : σ → Option ρ} {C : ρ → Prop} (h : sat (lb x k) C) : ∃ T : ρ ⊕ σ → Prop, (∀ r, T (.inl r) → C r) ∧ (∀ s, T (.inr s) → sat (k s) C) ∧ sat x T := ⟨fun a => Sum.elim C (fun s => sat (k s) C) a, fun _ h => h, fun _ h => h, sat_lb h⟩
theorem sat_top {α : Type} {x : Option α} {r : α} (h : x = some r) : ∃ C : α → Prop, (∀ a, C a → a = r) ∧ sat x C := ⟨fun a => a = r, fun _ h => h, r, h, rfl⟩
theorem ne_ti {x k : Int32} {z : Int} (h : ¬ x = k) (hz : k.toInt = z) : ¬ x.toInt = z := fun e => h (Int32.toInt_inj.mp (by rw [hz]; exact e))
theorem sat_of {α : Type} {x : Option α} {r : α} (h : x = some r) : sat x (fun a => a = r) := ⟨r, h, rfl⟩
theorem nar_b (b : Bool) : narrow .boolean (.int (b2i b)) = .int (b2i b) := by cases b <;> decide
theorem b2i_0 {b : Bool} : b2i b = 0 ↔ b = false := by cases b <;> decide
/-! constant facts of a state: the tables' words, class numbers, array classes, what a nest's mates may call -/
def tb (U : State) : Prop := ∀ w ∈ lw_tbl, goodWord w = true → ∀ a : Array Value, w.before a U = true
theorem tb.moved {s U : State} (hW : s.WarmedH U.vm) (h : tb s) : tb U := fun w hw hg _ => word_at (args := #[]) hW (good_of_word hg) (h w hw hg #[])
def nst : List (String × Nat × MethodName) := [(RX11, 11, yX9_init), (RX11, 34, yX1_init), (RX11, 73, yX2_init), (RX11, 80, yX8_init), (RX0, 21, yX1_init), (RX1, 11, yX3_init), (RX1, 64, yX11_pairCell), (RX1, 68, yX11_guessCell), (RX2, 19, yX11_pairCell), (RX3, 31, yX11_pairCell), (RX4, 17, yX1_init), (RX5, 19, yX11_guessCell), (RX5, 48, yX11_pairCell), (RX6, 20, yX3_init)]
abbrev tys0 (cI cZ cK : ClassId) : List (ClassId × FieldType) := [(cI, .int), (cZ, .boolean), (cK, .object RX1)]
def kq (D : va_G) (cI cZ cK : ClassId) (U : State) : Prop := va_K D vwCl (tys0 cI cZ cK) U ∧ tb U ∧ (∀ q ∈ nst, va_Nw (.methodLinkNest q.1 q.2.1 q.2.2 RX11) U) ∧ va_AO RX1 U
theorem kq.moved {D : va_G} {cI cZ cK : ClassId} {s U : State} (hW : s.WarmedH U.vm) (h : kq D cI cZ cK s) : kq D cI cZ cK U := ⟨va_K.moved hW.alike h.1, h.2.1.moved hW, fun q hq => va_Nw.warmM hW (h.2.2.1 q hq), va_AO.moved hW.alike h.2.2.2⟩
theorem kq.calls {D : va_G} {cI cZ cK : ClassId} {U : State} {g : JFrame} {mk : MethodId} {a : Array Value} (h : kq D cI cZ cK U) : kq D cI cZ cK (U.calling g mk a) := kq.moved (s := U) (U := U.calling g mk a) (State.WarmedH.refl U) h
/-! contracts -/
abbrev w1 (y : MethodName) (cc : ByteArray) (maxL : Nat) (ret : Option FieldType) : List Cond := [Cond.code y cc maxL ret]
def rdP (D : va_G) (cI cZ cK : ClassId) (av : List Value) (ws : va_W) : Array Value → State → Prop := va_Pc av (fun U => va_P D vwCl ws U.heap ∧ kq D cI cZ cK U)
def Rd (l : Launch) (D : va_G) (cI cZ cK : ClassId) (y : MethodName) (cc : ByteArray) (maxL : Nat) (ret : Option FieldType) (rm : Room) (av : List Value) (ws : va_W) (r : Int32) : Prop := Met l y (w1 y cc maxL ret) rm (rdP D cI cZ cK av ws) (vp_Si (fun x => x = r)) 0 0 (fun _ => False)
def muP (D : va_G) (cI cZ cK : ClassId) (av : List Value) (ws : va_W) (sz : Nat) : Array Value → State → Prop := va_Pc av (fun U => U.heap.size = sz ∧ va_P D vwCl ws U.heap ∧ kq D cI cZ cK U ∧ va_D (fun _ => True) ws)
def muQ (D : va_G) (ws ws' : va_W) (sz : Nat) (o : Option Value) : Array Value → State → Outcome → State → Prop := fun _ st oc t => oc = .returned o ∧ va_P D vwCl ws' t.heap ∧ va_D (va_A ws sz) ws' ∧ va_F (va_A ws sz) st t
def Mu (l : Launch) (D : va_G) (cI cZ cK : ClassId) (y : MethodName) (cc : ByteArray) (maxL : Nat) (ret : Option FieldType) (rm : Room) (av : List Value) (ws : va_W) (o : Option Value) (ws' : va_W) : Prop := ∀ sz : Nat, Met l y (w1 y cc maxL ret) rm (muP D cI cZ cK av ws sz) (muQ D ws ws' sz o) 0 0 (va_A ws sz)
def wd (D : va_G) (A : Nat → Prop) (H0 H : Heap) (locs : List Loc) (ws : va_W) : Prop := va_P D vwCl ws H ∧ va_D A ws ∧ va_S A H0 H locs
theorem rdP.blind {D : va_G} {cI cZ cK : ClassId} {av : List Value} {ws : va_W} : FrameBlind (rdP D cI cZ cK av ws) := fun _ _ _ _ q => ⟨q.1, q.2.1, q.2.2.calls⟩
theorem muP.blind {D : va_G} {cI cZ cK : ClassId} {av : List Value} {ws : va_W} {sz : Nat} : FrameBlind (muP D cI cZ cK av ws sz) := fun _ _ _ _ q => ⟨q.1, q.2.1, q.2.2.1, q.2.2.2.1.calls, q.2.2.2.2⟩
theorem rd_of {l : Launch} {D : va_G} {cI cZ cK : ClassId} {y : MethodName} {rm : Room} {cc : ByteArray} {maxL : Nat} {ty : FieldType} {av : List Value} {ws : va_W} {r : Int32} (hy : plainName y.cls = true) (hn : narrow ty (.int r) = .int r) (hlen : (lg_sl av).length ≤ maxL)
    (body : ∀ (p : Program) (e : Env) (s : State) (m : MethodId) (args : Array Value) (below : List Frame) (meth : Method) (c : Code) (Q : State → Prop) (ls : Array Slot), p.tables.exec = Jvm.exec → c.code = cc → c.maxLocals = maxL → s.vm.findClass y.cls = some m.cls → kq D cI cZ cK s → va_P D vwCl ws s.heap → (∀ (pc : Nat) (ls : Array Slot), decode cc pc = .ok (.ireturn, 1) → W p l e rm s m args below meth c s.heap [] 0 0 Q (F0 m pc ls [.int r])) → lv_has ls maxL (lv_args 0 av) → W p l e rm s m args below meth c s.heap [] 0 0 Q (F0 m 0 ls [])) : Rd l D cI cZ cK y cc maxL (some ty) rm av ws r := by
  refine Met.ofW (cc := cc) (maxL := maxL) (ret := (some ty)) hy rfl ?_
  intro p e s m args below meth c s₁ B hml hv
  obtain ⟨rfl, hP, hk⟩ := hv
  have hl := lv_entry av (n := maxL) hlen
  rw [lg_entry_eq]
  generalize (lg_sl av ++ List.replicate (maxL - (lg_sl av).length) Slot.unset).toArray = ls at hl ⊢
  refine body p e s m _ below meth c _ ls B.exec B.bytes hml (findClass_of_methodNamed B.named) hk hP ?_ hl
  intro pc ls hd
  exact W.zret B.exec B.bytes B.returns hn (fun t ht _ => ⟨r, rfl, rfl, ht⟩) (fun q h => by cases h) hd B.notSynchronized
theorem mi_of {l : Launch} {D : va_G} {cI cZ cK : ClassId} {y : MethodName} {rm : Room} {cc : ByteArray} {maxL : Nat} {ty : FieldType} {av : List Value} {ws ws' : va_W} {r : Int32} (hy : plainName y.cls = true) (hn : narrow ty (.int r) = .int r) (hlen : (lg_sl av).length ≤ maxL)
    (body : ∀ (p : Program) (e : Env) (s : State) (m : MethodId) (args : Array Value) (below : List Frame) (meth : Method) (c : Code) (Q : State → Prop) (A : Nat → Prop) (ls : Array Slot), p.tables.exec = Jvm.exec → c.code = cc → c.maxLocals = maxL → s.vm.findClass y.cls = some m.cls → kq D cI cZ cK s → (∀ q : Nat, s.heap.size ≤ q → A q) → wd D A s.heap s.heap [] ws → (∀ (pc : Nat) (ls : Array Slot) (H : Heap) (locs : List Loc), wd D A s.heap H locs ws' → decode cc pc = .ok (.ireturn, 1) → W p l e rm s m args below meth c H locs 0 0 Q (F0 m pc ls [.int r])) → lv_has ls maxL (lv_args 0 av) → W p l e rm s m args below meth c s.heap [] 0 0 Q (F0 m 0 ls [])) : Mu l D cI cZ cK y cc maxL (some ty) rm av ws (some (.int r)) ws' := by
  intro sz
  refine Met.ofW (cc := cc) (maxL := maxL) (ret := (some ty)) hy rfl ?_
  intro p e s m args below meth c s₁ B hml hv
  obtain ⟨rfl, hsz, hP, hk, hD0⟩ := hv
  subst hsz
  have hl := lv_entry av (n := maxL) hlen
  rw [lg_entry_eq]
  generalize (lg_sl av ++ List.replicate (maxL - (lg_sl av).length) Slot.unset).toArray = ls at hl ⊢
  refine body p e s m _ below meth c _ (va_A ws s.heap.size) ls B.exec B.bytes hml (findClass_of_methodNamed B.named) hk (fun q h => Or.inr h) ⟨hP, hD0.self, va_S.rf⟩ ?_ hl
  intro pc ls H locs hw' hd
  exact W.zret B.exec B.bytes B.returns hn (fun t ht _ => ⟨rfl, by rw [ht]; exact hw'.1, hw'.2.1, hw'.2.2.F ht⟩) hw'.2.2.2.2 hd B.notSynchronized
theorem mv_of {l : Launch} {D : va_G} {cI cZ cK : ClassId} {y : MethodName} {rm : Room} {cc : ByteArray} {maxL : Nat} {av : List Value} {ws ws' : va_W} (hy : plainName y.cls = true) (hlen : (lg_sl av).length ≤ maxL)
    (body : ∀ (p : Program) (e : Env) (s : State) (m : MethodId) (args : Array Value) (below : List Frame) (meth : Method) (c : Code) (Q : State → Prop) (A : Nat → Prop) (ls : Array Slot), p.tables.exec = Jvm.exec → c.code = cc → c.maxLocals = maxL → s.vm.findClass y.cls = some m.cls → kq D cI cZ cK s → (∀ q : Nat, s.heap.size ≤ q → A q) → wd D A s.heap s.heap [] ws → (∀ (pc : Nat) (ls : Array Slot) (H : Heap) (locs : List Loc), wd D A s.heap H locs ws' → decode cc pc = .ok (.return_, 1) → W p l e rm s m args below meth c H locs 0 0 Q (F0 m pc ls [])) → lv_has ls maxL (lv_args 0 av) → W p l e rm s m args below meth c s.heap [] 0 0 Q (F0 m 0 ls [])) : Mu l D cI cZ cK y cc maxL none rm av ws none ws' := by
  intro sz
  refine Met.ofW (cc := cc) (maxL := maxL) (ret := none) hy rfl ?_
  intro p e s m args below meth c s₁ B hml hv
  obtain ⟨rfl, hsz, hP, hk, hD0⟩ := hv
  subst hsz
  have hl := lv_entry av (n := maxL) hlen
  rw [lg_entry_eq]
  generalize (lg_sl av ++ List.replicate (maxL - (lg_sl av).length) Slot.unset).toArray = ls at hl ⊢
  refine body p e s m _ below meth c _ (va_A ws s.heap.size) ls B.exec B.bytes hml (findClass_of_methodNamed B.named) hk (fun q h => Or.inr h) ⟨hP, hD0.self, va_S.rf⟩ ?_ hl
  intro pc ls H locs hw' hd
  exact W.vret B.exec B.bytes B.returns (fun t ht _ => ⟨rfl, by rw [ht]; exact hw'.1, hw'.2.1, hw'.2.2.F ht⟩) hw'.2.2.2.2 hd B.notSynchronized
/-! worlds up to order -/
theorem vP_mem {D : va_G} {ws : va_W} {H : Heap} : va_P D vwCl ws H ↔ ∀ q ∈ ws, va_at D vwCl q H := by
  constructor
  · intro h q hq
    obtain ⟨k, hk⟩ := List.mem_iff_getElem?.mp hq
    exact h k q hk
  · intro h k q hk
    exact h q (List.mem_of_getElem? hk)
theorem vD_iff {A : Nat → Prop} {ws : va_W} : va_D A ws ↔ ws.Pairwise (fun p q => p.1 ≠ q.1) ∧ ∀ q ∈ ws, A q.1 := by
  constructor
  · intro h
    refine ⟨?_, fun q hq => ?_⟩
    · rw [List.pairwise_iff_getElem]
      intro i j hi hj hij e
      exact absurd (h.1 i j _ _ (List.getElem?_eq_getElem hi) (List.getElem?_eq_getElem hj) e) (by omega)
    · obtain ⟨k, hk⟩ := List.mem_iff_getElem?.mp hq
      exact h.2 k q hk
  · intro h
    refine ⟨fun i j p q hp hq e => ?_, fun k q hk => h.2 q (List.mem_of_getElem? hk)⟩
    obtain ⟨hi, rfl⟩ := List.getElem?_eq_some_iff.mp hp
    obtain ⟨hj, rfl⟩ := List.getElem?_eq_some_iff.mp hq
    have hw := List.pairwise_iff_getElem.mp h.1
    rcases Nat.lt_trichotomy i j with hij | hij | hij
    · exact absurd e (hw i j hi hj hij)
    · exact hij
    · exact absurd e.symm (hw j i hj hi hij)
theorem vP_perm {D : va_G} {ws ws' : va_W} {H : Heap} (p : ws.Perm ws') (h : va_P D vwCl ws H) : va_P D vwCl ws' H := vP_mem.mpr (fun q hq => vP_mem.mp h q (p.mem_iff.mpr hq))
theorem vD_perm {A : Nat → Prop} {ws ws' : va_W} (p : ws.Perm ws') (h : va_D A ws) : va_D A ws' := by
  obtain ⟨h1, h2⟩ := vD_iff.mp h
  exact vD_iff.mpr ⟨(p.pairwise_iff (fun h => Ne.symm h)).mp h1, fun q hq => h2 q (p.mem_iff.mpr hq)⟩
theorem wd.perm {D : va_G} {A : Nat → Prop} {H0 H : Heap} {locs : List Loc} {ws ws' : va_W} (p : ws.Perm ws') (h : wd D A H0 H locs ws) : wd D A H0 H locs ws' := ⟨vP_perm p h.1, vD_perm p h.2.1, h.2.2⟩
/-- two lists are one another's reorderings, by places -/
theorem pm {X Y : va_W} (is : List Nat) (h : is.map (fun i => X[i]?) = Y.map some) (hp : (List.range X.length).Perm is) : X.Perm Y := by
  have e : X.map some = (List.range X.length).map (fun i => X[i]?) := by
    apply List.ext_getElem?
    intro k
    by_cases hk : k < X.length
    · simp [hk]
    · simp [hk]
  have h1 : (X.map some).Perm (Y.map some) := by
    rw [e, ← h]
    exact hp.map _
  have h2 := h1.filterMap id
  simpa using h2
/-- a call's frame: callee's cells apart, what came back beside the rest -/
theorem wd.join {D : va_G} {A : Nat → Prop} {H0 H H1 : Heap} {locs locs1 : List Loc} {ws wc wr w1 : va_W} (w : wd D A H0 H locs ws) (hp : ws.Perm (wc ++ wr)) (hk : ∀ q : Nat, q < H.size → ¬ va_A wc H.size q → H1[q]? = H[q]?) (hP1 : va_P D vwCl w1 H1) (hD1 : va_D (va_A wc H.size) w1) (hS : va_S A H0 H1 locs1) (hA : ∀ q, H0.size ≤ q → A q) : wd D A H0 H1 locs1 (w1 ++ wr) := by
  have w2 := w.perm hp
  obtain ⟨d1, d2⟩ := vD_iff.mp w2.2.1
  obtain ⟨d3, d4, d5⟩ := List.pairwise_append.mp d1
  have hin : ∀ q, va_A wc H.size q → A q := by
    intro q hq
    rcases hq with ⟨k, e, hq⟩ | hq
    · exact d2 (q, e) (List.mem_append_left _ (List.mem_of_getElem? hq))
    · exact hA q (Nat.le_trans w.2.2.1 hq)
  have apart : ∀ q ∈ wr, q.1 < H.size ∧ ¬ va_A wc H.size q.1 := by
    intro q hq
    have hl := (vP_mem.mp w2.1 q (List.mem_append_right _ hq)).lt
    refine ⟨hl, fun h => ?_⟩
    rcases h with ⟨k, e, h⟩ | h
    · exact d5 (q.1, e) (List.mem_of_getElem? h) q hq rfl
    · omega
  obtain ⟨g1, g2⟩ := vD_iff.mp hD1
  refine ⟨vP_mem.mpr (fun q hq => ?_), vD_iff.mpr ⟨List.pairwise_append.mpr ⟨g1, d4, fun x hx y hy e => ?_⟩, fun q hq => ?_⟩, hS⟩
  · rcases List.mem_append.mp hq with h | h
    · exact vP_mem.mp hP1 q h
    · exact (vP_mem.mp w2.1 q (List.mem_append_right _ h)).kept (hk q.1 (apart q h).1 (apart q h).2)
  · exact (apart y hy).2 (by rw [← e]; exact g2 x hx)
  · rcases List.mem_append.mp hq with h | h
    · exact hin q.1 (g2 q h)
    · exact d2 q (List.mem_append_right _ h)
