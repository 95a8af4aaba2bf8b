def cpo (sp dp n : Int32) (n0 n1 : Nat) : Bool := decide ((¬ sp < 0) ∧ (¬ dp < 0) ∧ (¬ n < 0) ∧ sp.toNatClampNeg + n.toNatClampNeg ≤ n0 ∧ dp.toNatClampNeg + n.toNatClampNeg ≤ n1)
theorem sat_cp {α : Type} {sp dp n : Int32} {n0 n1 : Nat} {x : Option α} {C : α → Prop} (h : sat (ck (cpo sp dp n n0 n1) x) C) : ((¬ sp < 0) ∧ (¬ dp < 0) ∧ (¬ n < 0) ∧ sp.toNatClampNeg + n.toNatClampNeg ≤ n0 ∧ dp.toNatClampNeg + n.toNatClampNeg ≤ n1) ∧ sat x C := by
  by_cases hb : (¬ sp < 0) ∧ (¬ dp < 0) ∧ (¬ n < 0) ∧ sp.toNatClampNeg + n.toNatClampNeg ≤ n0 ∧ dp.toNatClampNeg + n.toNatClampNeg ≤ n1
  · refine ⟨hb, ?_⟩
    have e : cpo sp dp n n0 n1 = true := decide_eq_true hb
    rw [e] at h
    exact h
  · have e : cpo sp dp n n0 n1 = false := decide_eq_false hb
    rw [e] at h
    obtain ⟨a, h1, -⟩ := h
    cases h1
theorem pmn {X Y : va_W} (n : Nat) (is : List Nat) (h : is.map (fun i => X[i]?) = Y.map some) (hl : X.length = n) (hp : (List.range n).Perm is) : X.Perm Y := pm is h (by rw [hl]; exact hp)
