/-! the start -/
theorem row0_0 {i : Nat} (h1 : i ≠ 1) (h2 : i < 406) : row0 i = 0 := by
  unfold row0
  rw [pk_un h1, if_neg (fun q => by omega)]
theorem row0_m {i : Nat} (h1 : 406 ≤ i) (h2 : i < 622) : row0 i = -1 := by
  unfold row0
  rw [pk_un (by omega), if_pos ⟨h1, h2⟩]
theorem row0_1 : row0 1 = -1 := by
  unfold row0
  rw [pk_us]
theorem RK_0 : RK 2 0 zr 0 zr zr zr zr zr zr 0 0 row0 := by
  refine ⟨⟨fun u v hu hv huv => ?_, fun u hu => rfl, fun u v hu hv huv => ?_, fun u v hu hv => ⟨show 0 ≤ (0 : Int32).toInt from by decide, show (0 : Int32).toInt ≤ 9 from by decide⟩, fun u v hu hv _ => rfl⟩, ?_, fun u v huv hv => ?_, fun c hc => Or.inl ⟨rfl, row0_m (by omega) (by omega)⟩, fun u hu => ⟨?_, ?_⟩, ⟨?_, 0, by omega, rfl⟩, Or.inl ⟨rfl, row0_1⟩⟩
  · have := pr_lt hu hv
    rw [row0_0 (by omega) (by omega)]
    rfl
  · exact row0_0 (by omega) (by omega)
  · have hc : cntF (lf row0) 36 0 = 0 := by
      have : ¬ 0 < cntF (lf row0) 36 0 := by
        rw [cnt_pos]
        rintro ⟨i, a, b, c⟩
        unfold lf at c
        rw [row0_0 (by omega) (by omega)] at c
        cases c
      omega
    rw [hc]
    exact ⟨rfl, by omega⟩
  · rw [row0_0 (by omega) (by omega)]
    rfl
  · rw [row0_0 (by omega) (by omega)]
    rfl
  · rw [row0_0 (by omega) (by omega)]
    rfl
  · rw [row0_0 (by omega) (by omega)]
theorem Rel_0 : Rel 0 zr 0 2 0 0 99 60 0 zr 0 zr zr zr zr zr zr 0 0 0 0 kvs0 zr kvs0 zr zr zr 0 2 0 0 99 60 0 row0 0 0 zr zr zr 0 zr 0 zr zr zr :=
  ⟨2, 60, ⟨by omega, by omega, rfl, rfl⟩, ⟨rfl, rfl, rfl, rfl⟩, ⟨by omega, rfl, rfl⟩, RK_0, ⟨0, 0, by omega, by omega, rfl, rfl, rfl, rfl, fun i hi => by omega⟩, fun j hj => ⟨rfl, fun h => absurd rfl h⟩, ⟨0, fun _ => 0, rfl, rfl, ⟨by omega, fun j hj => by omega⟩, ⟨by omega, fun j hj => by omega⟩⟩, ⟨0, by omega, rfl, rfl, fun j hj => by omega⟩⟩
