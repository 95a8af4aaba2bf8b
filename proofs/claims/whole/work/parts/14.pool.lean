/-! Knowns in any number: the ring, the images -/
def kc (cI : ClassId) (b : Nat → Nat) (k : Nat → ar) : va_W := [(b 0, .inr (1, [.ref (b 1), .ref (b 3), .ref (b 4), .ref (b 5), .ref (b 6), .ref (b 7), .ref (b 8), .int (k 7 1), .int (k 7 2)])), (b 1, .inr (3, [.ref (b 2), .int (k 7 0)])), (b 2, .inl (cI, 36, .inl (k 0))), (b 3, .inl (cI, 36, .inl (k 1))), (b 4, .inl (cI, 216, .inl (k 2))), (b 5, .inl (cI, 216, .inl (k 3))), (b 6, .inl (cI, 6, .inl (k 4))), (b 7, .inl (cI, 6, .inl (k 5))), (b 8, .inl (cI, 101, .inl (k 6)))]
def kvT (dl hp gs md ct xp wn : ar) (lt wz tm : Int32) : Nat → ar := fun i => match i with
  | 0 => dl
  | 1 => hp
  | 2 => gs
  | 3 => md
  | 4 => ct
  | 5 => xp
  | 6 => wn
  | _ => fun j => match j with
    | 0 => lt
    | 1 => wz
    | _ => tm
def rc (cI : ClassId) (ra : Nat → Nat → Nat) (rv : Nat → Nat → ar) (n : Nat) : va_W := (List.range n).flatMap (fun j => kc cI (ra j) (rv j))
def rx (cI : ClassId) (ra : Nat → Nat → Nat) (rv : Nat → Nat → ar) (n j : Nat) : va_W := ((List.range n).erase j).flatMap (fun j => kc cI (ra j) (rv j))
theorem rc_take {cI : ClassId} {ra : Nat → Nat → Nat} {rv : Nat → Nat → ar} {n j : Nat} (hj : j < n) : (rc cI ra rv n).Perm (kc cI (ra j) (rv j) ++ rx cI ra rv n j) := by
  have h := (List.perm_cons_erase (List.mem_range.mpr hj)).flatMap_right (fun j => kc cI (ra j) (rv j))
  rw [List.flatMap_cons] at h
  exact h
theorem fm_congr {l : List Nat} {f g : Nat → va_W} (h : ∀ i ∈ l, f i = g i) : l.flatMap f = l.flatMap g := by
  induction l with
  | nil => rfl
  | cons a l ih =>
    rw [List.flatMap_cons, List.flatMap_cons, h a List.mem_cons_self, ih (fun i hi => h i (List.mem_cons_of_mem _ hi))]
theorem rc_put {cI : ClassId} {ra : Nat → Nat → Nat} {rv : Nat → Nat → ar} {n j : Nat} {k : Nat → ar} (hj : j < n) : (kc cI (ra j) k ++ rx cI ra rv n j).Perm (rc cI ra (va_up rv j k) n) := by
  have h := rc_take (cI := cI) (ra := ra) (rv := va_up rv j k) hj
  have e1 : va_up rv j k j = k := by simp [va_up]
  have e2 : rx cI ra (va_up rv j k) n j = rx cI ra rv n j := by
    unfold rx
    apply fm_congr
    intro i hi
    have hne : i ≠ j := by
      intro e
      subst e
      exact (List.nodup_range.not_mem_erase) hi
    simp [va_up, hne]
  rw [e1, e2] at h
  exact h.symm
theorem pm_in {X K X' t kj r : va_W} (h1 : X.Perm (K ++ X')) (h2 : t.Perm (kj ++ r)) : (X ++ t).Perm ((kj ++ K) ++ (X' ++ r)) := by
  refine (h1.append h2).trans ?_
  refine List.Perm.trans (l₂ := (kj ++ r) ++ (K ++ X')) List.perm_append_comm ?_
  rw [List.append_assoc, List.append_assoc]
  refine List.Perm.append_left _ ?_
  refine List.perm_append_comm.trans ?_
  rw [List.append_assoc]
theorem pm_out {X K X' t kj r : va_W} (h1 : (K ++ X').Perm X) (h2 : (kj ++ r).Perm t) : ((kj ++ K) ++ (X' ++ r)).Perm (X ++ t) := (pm_in h1.symm h2.symm).symm
theorem pm_in2 {X K X' t kj r : va_W} (h1 : X.Perm (K ++ X')) (h2 : t.Perm (kj ++ r)) : (X ++ t).Perm ((K ++ kj) ++ (X' ++ r)) := (pm_in h1 h2).trans (List.Perm.append_right _ List.perm_append_comm)
theorem pm_out2 {X K X' t kj r : va_W} (h1 : (K ++ X').Perm X) (h2 : (kj ++ r).Perm t) : ((K ++ kj) ++ (X' ++ r)).Perm (X ++ t) := (pm_in2 h1.symm h2.symm).symm
theorem pmT {X P O t : va_W} (h : X.Perm (P ++ O)) : (X ++ t).Perm (P ++ (O ++ t)) := by
  rw [← List.append_assoc]
  exact h.append_right t
theorem pmTb {X P O t : va_W} (h : (P ++ O).Perm X) : (P ++ (O ++ t)).Perm (X ++ t) := (pmT h.symm).symm
theorem pmC {X P O t : va_W} (h : X.Perm (P ++ O)) : (X ++ t).Perm ((P ++ t) ++ O) := by
  refine (h.append_right t).trans ?_
  rw [List.append_assoc, List.append_assoc]
  exact List.Perm.append_left _ List.perm_append_comm
theorem pmCb {X P O t : va_W} (h : (P ++ O).Perm X) : ((P ++ t) ++ O).Perm (X ++ t) := (pmC h.symm).symm
theorem vp_lt {i : Int32} {n : Nat} (h : vp_in i n) : i.toNatClampNeg < n := by
  unfold vp_in at h
  omega
