theorem q_3 : m_code 3 = mc_3 := rfl
theorem g_3_0 {S : Nat × (Nat → Int32)} {d : Nat} {σ : Mem} {Q : MQ1} {x0 : Int32}  (h : Q [.inl ((((((((x0 - ((((x0 : Int32).toUInt32 >>> ((1 : Int32).toUInt32 &&& Int32.toUInt32 31)).toInt32) &&& 1431655765)) &&& 858993459) + ((((x0 - ((((x0 : Int32).toUInt32 >>> ((1 : Int32).toUInt32 &&& Int32.toUInt32 31)).toInt32) &&& 1431655765) : Int32).toUInt32 >>> ((2 : Int32).toUInt32 &&& Int32.toUInt32 31)).toInt32) &&& 858993459)) + (((((x0 - ((((x0 : Int32).toUInt32 >>> ((1 : Int32).toUInt32 &&& Int32.toUInt32 31)).toInt32) &&& 1431655765)) &&& 858993459) + ((((x0 - ((((x0 : Int32).toUInt32 >>> ((1 : Int32).toUInt32 &&& Int32.toUInt32 31)).toInt32) &&& 1431655765) : Int32).toUInt32 >>> ((2 : Int32).toUInt32 &&& Int32.toUInt32 31)).toInt32) &&& 858993459) : Int32).toUInt32 >>> ((4 : Int32).toUInt32 &&& Int32.toUInt32 31)).toInt32)) &&& 252645135) + (((((((x0 - ((((x0 : Int32).toUInt32 >>> ((1 : Int32).toUInt32 &&& Int32.toUInt32 31)).toInt32) &&& 1431655765)) &&& 858993459) + ((((x0 - ((((x0 : Int32).toUInt32 >>> ((1 : Int32).toUInt32 &&& Int32.toUInt32 31)).toInt32) &&& 1431655765) : Int32).toUInt32 >>> ((2 : Int32).toUInt32 &&& Int32.toUInt32 31)).toInt32) &&& 858993459)) + (((((x0 - ((((x0 : Int32).toUInt32 >>> ((1 : Int32).toUInt32 &&& Int32.toUInt32 31)).toInt32) &&& 1431655765)) &&& 858993459) + ((((x0 - ((((x0 : Int32).toUInt32 >>> ((1 : Int32).toUInt32 &&& Int32.toUInt32 31)).toInt32) &&& 1431655765) : Int32).toUInt32 >>> ((2 : Int32).toUInt32 &&& Int32.toUInt32 31)).toInt32) &&& 858993459) : Int32).toUInt32 >>> ((4 : Int32).toUInt32 &&& Int32.toUInt32 31)).toInt32)) &&& 252645135 : Int32).toUInt32 >>> ((8 : Int32).toUInt32 &&& Int32.toUInt32 31)).toInt32)) + ((((((((x0 - ((((x0 : Int32).toUInt32 >>> ((1 : Int32).toUInt32 &&& Int32.toUInt32 31)).toInt32) &&& 1431655765)) &&& 858993459) + ((((x0 - ((((x0 : Int32).toUInt32 >>> ((1 : Int32).toUInt32 &&& Int32.toUInt32 31)).toInt32) &&& 1431655765) : Int32).toUInt32 >>> ((2 : Int32).toUInt32 &&& Int32.toUInt32 31)).toInt32) &&& 858993459)) + (((((x0 - ((((x0 : Int32).toUInt32 >>> ((1 : Int32).toUInt32 &&& Int32.toUInt32 31)).toInt32) &&& 1431655765)) &&& 858993459) + ((((x0 - ((((x0 : Int32).toUInt32 >>> ((1 : Int32).toUInt32 &&& Int32.toUInt32 31)).toInt32) &&& 1431655765) : Int32).toUInt32 >>> ((2 : Int32).toUInt32 &&& Int32.toUInt32 31)).toInt32) &&& 858993459) : Int32).toUInt32 >>> ((4 : Int32).toUInt32 &&& Int32.toUInt32 31)).toInt32)) &&& 252645135) + (((((((x0 - ((((x0 : Int32).toUInt32 >>> ((1 : Int32).toUInt32 &&& Int32.toUInt32 31)).toInt32) &&& 1431655765)) &&& 858993459) + ((((x0 - ((((x0 : Int32).toUInt32 >>> ((1 : Int32).toUInt32 &&& Int32.toUInt32 31)).toInt32) &&& 1431655765) : Int32).toUInt32 >>> ((2 : Int32).toUInt32 &&& Int32.toUInt32 31)).toInt32) &&& 858993459)) + (((((x0 - ((((x0 : Int32).toUInt32 >>> ((1 : Int32).toUInt32 &&& Int32.toUInt32 31)).toInt32) &&& 1431655765)) &&& 858993459) + ((((x0 - ((((x0 : Int32).toUInt32 >>> ((1 : Int32).toUInt32 &&& Int32.toUInt32 31)).toInt32) &&& 1431655765) : Int32).toUInt32 >>> ((2 : Int32).toUInt32 &&& Int32.toUInt32 31)).toInt32) &&& 858993459) : Int32).toUInt32 >>> ((4 : Int32).toUInt32 &&& Int32.toUInt32 31)).toInt32)) &&& 252645135 : Int32).toUInt32 >>> ((8 : Int32).toUInt32 &&& Int32.toUInt32 31)).toInt32) : Int32).toUInt32 >>> ((16 : Int32).toUInt32 &&& Int32.toUInt32 31)).toInt32)) &&& 63)] σ) : Ev S d 3 0 [some (.inl x0)] [] σ Q := by
  refine e_load q_3 rfl rfl rfl ?_
  refine e_load q_3 rfl rfl rfl ?_
  refine e_push q_3 rfl ?_
  refine e_bin (r := ((x0 : Int32).toUInt32 >>> ((1 : Int32).toUInt32 &&& Int32.toUInt32 31)).toInt32) q_3 rfl rfl ?_
  refine e_push q_3 rfl ?_
  refine e_bin (r := (((x0 : Int32).toUInt32 >>> ((1 : Int32).toUInt32 &&& Int32.toUInt32 31)).toInt32) &&& 1431655765) q_3 rfl rfl ?_
  refine e_bin (r := x0 - ((((x0 : Int32).toUInt32 >>> ((1 : Int32).toUInt32 &&& Int32.toUInt32 31)).toInt32) &&& 1431655765)) q_3 rfl rfl ?_
  refine e_store (ls' := [some (.inl (x0 - ((((x0 : Int32).toUInt32 >>> ((1 : Int32).toUInt32 &&& Int32.toUInt32 31)).toInt32) &&& 1431655765)))]) q_3 rfl (Nat.le_of_ble_eq_true rfl) rfl rfl ?_
  refine e_load q_3 rfl rfl rfl ?_
  refine e_push q_3 rfl ?_
  refine e_bin (r := (x0 - ((((x0 : Int32).toUInt32 >>> ((1 : Int32).toUInt32 &&& Int32.toUInt32 31)).toInt32) &&& 1431655765)) &&& 858993459) q_3 rfl rfl ?_
  refine e_load q_3 rfl rfl rfl ?_
  refine e_push q_3 rfl ?_
  refine e_bin (r := ((x0 - ((((x0 : Int32).toUInt32 >>> ((1 : Int32).toUInt32 &&& Int32.toUInt32 31)).toInt32) &&& 1431655765) : Int32).toUInt32 >>> ((2 : Int32).toUInt32 &&& Int32.toUInt32 31)).toInt32) q_3 rfl rfl ?_
  refine e_push q_3 rfl ?_
  refine e_bin (r := (((x0 - ((((x0 : Int32).toUInt32 >>> ((1 : Int32).toUInt32 &&& Int32.toUInt32 31)).toInt32) &&& 1431655765) : Int32).toUInt32 >>> ((2 : Int32).toUInt32 &&& Int32.toUInt32 31)).toInt32) &&& 858993459) q_3 rfl rfl ?_
  refine e_bin (r := ((x0 - ((((x0 : Int32).toUInt32 >>> ((1 : Int32).toUInt32 &&& Int32.toUInt32 31)).toInt32) &&& 1431655765)) &&& 858993459) + ((((x0 - ((((x0 : Int32).toUInt32 >>> ((1 : Int32).toUInt32 &&& Int32.toUInt32 31)).toInt32) &&& 1431655765) : Int32).toUInt32 >>> ((2 : Int32).toUInt32 &&& Int32.toUInt32 31)).toInt32) &&& 858993459)) q_3 rfl rfl ?_
  refine e_store (ls' := [some (.inl (((x0 - ((((x0 : Int32).toUInt32 >>> ((1 : Int32).toUInt32 &&& Int32.toUInt32 31)).toInt32) &&& 1431655765)) &&& 858993459) + ((((x0 - ((((x0 : Int32).toUInt32 >>> ((1 : Int32).toUInt32 &&& Int32.toUInt32 31)).toInt32) &&& 1431655765) : Int32).toUInt32 >>> ((2 : Int32).toUInt32 &&& Int32.toUInt32 31)).toInt32) &&& 858993459)))]) q_3 rfl (Nat.le_of_ble_eq_true rfl) rfl rfl ?_
  refine e_load q_3 rfl rfl rfl ?_
  refine e_load q_3 rfl rfl rfl ?_
  refine e_push q_3 rfl ?_
  refine e_bin (r := ((((x0 - ((((x0 : Int32).toUInt32 >>> ((1 : Int32).toUInt32 &&& Int32.toUInt32 31)).toInt32) &&& 1431655765)) &&& 858993459) + ((((x0 - ((((x0 : Int32).toUInt32 >>> ((1 : Int32).toUInt32 &&& Int32.toUInt32 31)).toInt32) &&& 1431655765) : Int32).toUInt32 >>> ((2 : Int32).toUInt32 &&& Int32.toUInt32 31)).toInt32) &&& 858993459) : Int32).toUInt32 >>> ((4 : Int32).toUInt32 &&& Int32.toUInt32 31)).toInt32) q_3 rfl rfl ?_
  refine e_bin (r := (((x0 - ((((x0 : Int32).toUInt32 >>> ((1 : Int32).toUInt32 &&& Int32.toUInt32 31)).toInt32) &&& 1431655765)) &&& 858993459) + ((((x0 - ((((x0 : Int32).toUInt32 >>> ((1 : Int32).toUInt32 &&& Int32.toUInt32 31)).toInt32) &&& 1431655765) : Int32).toUInt32 >>> ((2 : Int32).toUInt32 &&& Int32.toUInt32 31)).toInt32) &&& 858993459)) + (((((x0 - ((((x0 : Int32).toUInt32 >>> ((1 : Int32).toUInt32 &&& Int32.toUInt32 31)).toInt32) &&& 1431655765)) &&& 858993459) + ((((x0 - ((((x0 : Int32).toUInt32 >>> ((1 : Int32).toUInt32 &&& Int32.toUInt32 31)).toInt32) &&& 1431655765) : Int32).toUInt32 >>> ((2 : Int32).toUInt32 &&& Int32.toUInt32 31)).toInt32) &&& 858993459) : Int32).toUInt32 >>> ((4 : Int32).toUInt32 &&& Int32.toUInt32 31)).toInt32)) q_3 rfl rfl ?_
  refine e_push q_3 rfl ?_
  refine e_bin (r := ((((x0 - ((((x0 : Int32).toUInt32 >>> ((1 : Int32).toUInt32 &&& Int32.toUInt32 31)).toInt32) &&& 1431655765)) &&& 858993459) + ((((x0 - ((((x0 : Int32).toUInt32 >>> ((1 : Int32).toUInt32 &&& Int32.toUInt32 31)).toInt32) &&& 1431655765) : Int32).toUInt32 >>> ((2 : Int32).toUInt32 &&& Int32.toUInt32 31)).toInt32) &&& 858993459)) + (((((x0 - ((((x0 : Int32).toUInt32 >>> ((1 : Int32).toUInt32 &&& Int32.toUInt32 31)).toInt32) &&& 1431655765)) &&& 858993459) + ((((x0 - ((((x0 : Int32).toUInt32 >>> ((1 : Int32).toUInt32 &&& Int32.toUInt32 31)).toInt32) &&& 1431655765) : Int32).toUInt32 >>> ((2 : Int32).toUInt32 &&& Int32.toUInt32 31)).toInt32) &&& 858993459) : Int32).toUInt32 >>> ((4 : Int32).toUInt32 &&& Int32.toUInt32 31)).toInt32)) &&& 252645135) q_3 rfl rfl ?_
  refine e_store (ls' := [some (.inl (((((x0 - ((((x0 : Int32).toUInt32 >>> ((1 : Int32).toUInt32 &&& Int32.toUInt32 31)).toInt32) &&& 1431655765)) &&& 858993459) + ((((x0 - ((((x0 : Int32).toUInt32 >>> ((1 : Int32).toUInt32 &&& Int32.toUInt32 31)).toInt32) &&& 1431655765) : Int32).toUInt32 >>> ((2 : Int32).toUInt32 &&& Int32.toUInt32 31)).toInt32) &&& 858993459)) + (((((x0 - ((((x0 : Int32).toUInt32 >>> ((1 : Int32).toUInt32 &&& Int32.toUInt32 31)).toInt32) &&& 1431655765)) &&& 858993459) + ((((x0 - ((((x0 : Int32).toUInt32 >>> ((1 : Int32).toUInt32 &&& Int32.toUInt32 31)).toInt32) &&& 1431655765) : Int32).toUInt32 >>> ((2 : Int32).toUInt32 &&& Int32.toUInt32 31)).toInt32) &&& 858993459) : Int32).toUInt32 >>> ((4 : Int32).toUInt32 &&& Int32.toUInt32 31)).toInt32)) &&& 252645135))]) q_3 rfl (Nat.le_of_ble_eq_true rfl) rfl rfl ?_
  refine e_load q_3 rfl rfl rfl ?_
  refine e_load q_3 rfl rfl rfl ?_
  refine e_push q_3 rfl ?_
  refine e_bin (r := ((((((x0 - ((((x0 : Int32).toUInt32 >>> ((1 : Int32).toUInt32 &&& Int32.toUInt32 31)).toInt32) &&& 1431655765)) &&& 858993459) + ((((x0 - ((((x0 : Int32).toUInt32 >>> ((1 : Int32).toUInt32 &&& Int32.toUInt32 31)).toInt32) &&& 1431655765) : Int32).toUInt32 >>> ((2 : Int32).toUInt32 &&& Int32.toUInt32 31)).toInt32) &&& 858993459)) + (((((x0 - ((((x0 : Int32).toUInt32 >>> ((1 : Int32).toUInt32 &&& Int32.toUInt32 31)).toInt32) &&& 1431655765)) &&& 858993459) + ((((x0 - ((((x0 : Int32).toUInt32 >>> ((1 : Int32).toUInt32 &&& Int32.toUInt32 31)).toInt32) &&& 1431655765) : Int32).toUInt32 >>> ((2 : Int32).toUInt32 &&& Int32.toUInt32 31)).toInt32) &&& 858993459) : Int32).toUInt32 >>> ((4 : Int32).toUInt32 &&& Int32.toUInt32 31)).toInt32)) &&& 252645135 : Int32).toUInt32 >>> ((8 : Int32).toUInt32 &&& Int32.toUInt32 31)).toInt32) q_3 rfl rfl ?_
  refine e_bin (r := (((((x0 - ((((x0 : Int32).toUInt32 >>> ((1 : Int32).toUInt32 &&& Int32.toUInt32 31)).toInt32) &&& 1431655765)) &&& 858993459) + ((((x0 - ((((x0 : Int32).toUInt32 >>> ((1 : Int32).toUInt32 &&& Int32.toUInt32 31)).toInt32) &&& 1431655765) : Int32).toUInt32 >>> ((2 : Int32).toUInt32 &&& Int32.toUInt32 31)).toInt32) &&& 858993459)) + (((((x0 - ((((x0 : Int32).toUInt32 >>> ((1 : Int32).toUInt32 &&& Int32.toUInt32 31)).toInt32) &&& 1431655765)) &&& 858993459) + ((((x0 - ((((x0 : Int32).toUInt32 >>> ((1 : Int32).toUInt32 &&& Int32.toUInt32 31)).toInt32) &&& 1431655765) : Int32).toUInt32 >>> ((2 : Int32).toUInt32 &&& Int32.toUInt32 31)).toInt32) &&& 858993459) : Int32).toUInt32 >>> ((4 : Int32).toUInt32 &&& Int32.toUInt32 31)).toInt32)) &&& 252645135) + (((((((x0 - ((((x0 : Int32).toUInt32 >>> ((1 : Int32).toUInt32 &&& Int32.toUInt32 31)).toInt32) &&& 1431655765)) &&& 858993459) + ((((x0 - ((((x0 : Int32).toUInt32 >>> ((1 : Int32).toUInt32 &&& Int32.toUInt32 31)).toInt32) &&& 1431655765) : Int32).toUInt32 >>> ((2 : Int32).toUInt32 &&& Int32.toUInt32 31)).toInt32) &&& 858993459)) + (((((x0 - ((((x0 : Int32).toUInt32 >>> ((1 : Int32).toUInt32 &&& Int32.toUInt32 31)).toInt32) &&& 1431655765)) &&& 858993459) + ((((x0 - ((((x0 : Int32).toUInt32 >>> ((1 : Int32).toUInt32 &&& Int32.toUInt32 31)).toInt32) &&& 1431655765) : Int32).toUInt32 >>> ((2 : Int32).toUInt32 &&& Int32.toUInt32 31)).toInt32) &&& 858993459) : Int32).toUInt32 >>> ((4 : Int32).toUInt32 &&& Int32.toUInt32 31)).toInt32)) &&& 252645135 : Int32).toUInt32 >>> ((8 : Int32).toUInt32 &&& Int32.toUInt32 31)).toInt32)) q_3 rfl rfl ?_
  refine e_store (ls' := [some (.inl ((((((x0 - ((((x0 : Int32).toUInt32 >>> ((1 : Int32).toUInt32 &&& Int32.toUInt32 31)).toInt32) &&& 1431655765)) &&& 858993459) + ((((x0 - ((((x0 : Int32).toUInt32 >>> ((1 : Int32).toUInt32 &&& Int32.toUInt32 31)).toInt32) &&& 1431655765) : Int32).toUInt32 >>> ((2 : Int32).toUInt32 &&& Int32.toUInt32 31)).toInt32) &&& 858993459)) + (((((x0 - ((((x0 : Int32).toUInt32 >>> ((1 : Int32).toUInt32 &&& Int32.toUInt32 31)).toInt32) &&& 1431655765)) &&& 858993459) + ((((x0 - ((((x0 : Int32).toUInt32 >>> ((1 : Int32).toUInt32 &&& Int32.toUInt32 31)).toInt32) &&& 1431655765) : Int32).toUInt32 >>> ((2 : Int32).toUInt32 &&& Int32.toUInt32 31)).toInt32) &&& 858993459) : Int32).toUInt32 >>> ((4 : Int32).toUInt32 &&& Int32.toUInt32 31)).toInt32)) &&& 252645135) + (((((((x0 - ((((x0 : Int32).toUInt32 >>> ((1 : Int32).toUInt32 &&& Int32.toUInt32 31)).toInt32) &&& 1431655765)) &&& 858993459) + ((((x0 - ((((x0 : Int32).toUInt32 >>> ((1 : Int32).toUInt32 &&& Int32.toUInt32 31)).toInt32) &&& 1431655765) : Int32).toUInt32 >>> ((2 : Int32).toUInt32 &&& Int32.toUInt32 31)).toInt32) &&& 858993459)) + (((((x0 - ((((x0 : Int32).toUInt32 >>> ((1 : Int32).toUInt32 &&& Int32.toUInt32 31)).toInt32) &&& 1431655765)) &&& 858993459) + ((((x0 - ((((x0 : Int32).toUInt32 >>> ((1 : Int32).toUInt32 &&& Int32.toUInt32 31)).toInt32) &&& 1431655765) : Int32).toUInt32 >>> ((2 : Int32).toUInt32 &&& Int32.toUInt32 31)).toInt32) &&& 858993459) : Int32).toUInt32 >>> ((4 : Int32).toUInt32 &&& Int32.toUInt32 31)).toInt32)) &&& 252645135 : Int32).toUInt32 >>> ((8 : Int32).toUInt32 &&& Int32.toUInt32 31)).toInt32)))]) q_3 rfl (Nat.le_of_ble_eq_true rfl) rfl rfl ?_
  refine e_load q_3 rfl rfl rfl ?_
  refine e_load q_3 rfl rfl rfl ?_
  refine e_push q_3 rfl ?_
  refine e_bin (r := (((((((x0 - ((((x0 : Int32).toUInt32 >>> ((1 : Int32).toUInt32 &&& Int32.toUInt32 31)).toInt32) &&& 1431655765)) &&& 858993459) + ((((x0 - ((((x0 : Int32).toUInt32 >>> ((1 : Int32).toUInt32 &&& Int32.toUInt32 31)).toInt32) &&& 1431655765) : Int32).toUInt32 >>> ((2 : Int32).toUInt32 &&& Int32.toUInt32 31)).toInt32) &&& 858993459)) + (((((x0 - ((((x0 : Int32).toUInt32 >>> ((1 : Int32).toUInt32 &&& Int32.toUInt32 31)).toInt32) &&& 1431655765)) &&& 858993459) + ((((x0 - ((((x0 : Int32).toUInt32 >>> ((1 : Int32).toUInt32 &&& Int32.toUInt32 31)).toInt32) &&& 1431655765) : Int32).toUInt32 >>> ((2 : Int32).toUInt32 &&& Int32.toUInt32 31)).toInt32) &&& 858993459) : Int32).toUInt32 >>> ((4 : Int32).toUInt32 &&& Int32.toUInt32 31)).toInt32)) &&& 252645135) + (((((((x0 - ((((x0 : Int32).toUInt32 >>> ((1 : Int32).toUInt32 &&& Int32.toUInt32 31)).toInt32) &&& 1431655765)) &&& 858993459) + ((((x0 - ((((x0 : Int32).toUInt32 >>> ((1 : Int32).toUInt32 &&& Int32.toUInt32 31)).toInt32) &&& 1431655765) : Int32).toUInt32 >>> ((2 : Int32).toUInt32 &&& Int32.toUInt32 31)).toInt32) &&& 858993459)) + (((((x0 - ((((x0 : Int32).toUInt32 >>> ((1 : Int32).toUInt32 &&& Int32.toUInt32 31)).toInt32) &&& 1431655765)) &&& 858993459) + ((((x0 - ((((x0 : Int32).toUInt32 >>> ((1 : Int32).toUInt32 &&& Int32.toUInt32 31)).toInt32) &&& 1431655765) : Int32).toUInt32 >>> ((2 : Int32).toUInt32 &&& Int32.toUInt32 31)).toInt32) &&& 858993459) : Int32).toUInt32 >>> ((4 : Int32).toUInt32 &&& Int32.toUInt32 31)).toInt32)) &&& 252645135 : Int32).toUInt32 >>> ((8 : Int32).toUInt32 &&& Int32.toUInt32 31)).toInt32) : Int32).toUInt32 >>> ((16 : Int32).toUInt32 &&& Int32.toUInt32 31)).toInt32) q_3 rfl rfl ?_
  refine e_bin (r := ((((((x0 - ((((x0 : Int32).toUInt32 >>> ((1 : Int32).toUInt32 &&& Int32.toUInt32 31)).toInt32) &&& 1431655765)) &&& 858993459) + ((((x0 - ((((x0 : Int32).toUInt32 >>> ((1 : Int32).toUInt32 &&& Int32.toUInt32 31)).toInt32) &&& 1431655765) : Int32).toUInt32 >>> ((2 : Int32).toUInt32 &&& Int32.toUInt32 31)).toInt32) &&& 858993459)) + (((((x0 - ((((x0 : Int32).toUInt32 >>> ((1 : Int32).toUInt32 &&& Int32.toUInt32 31)).toInt32) &&& 1431655765)) &&& 858993459) + ((((x0 - ((((x0 : Int32).toUInt32 >>> ((1 : Int32).toUInt32 &&& Int32.toUInt32 31)).toInt32) &&& 1431655765) : Int32).toUInt32 >>> ((2 : Int32).toUInt32 &&& Int32.toUInt32 31)).toInt32) &&& 858993459) : Int32).toUInt32 >>> ((4 : Int32).toUInt32 &&& Int32.toUInt32 31)).toInt32)) &&& 252645135) + (((((((x0 - ((((x0 : Int32).toUInt32 >>> ((1 : Int32).toUInt32 &&& Int32.toUInt32 31)).toInt32) &&& 1431655765)) &&& 858993459) + ((((x0 - ((((x0 : Int32).toUInt32 >>> ((1 : Int32).toUInt32 &&& Int32.toUInt32 31)).toInt32) &&& 1431655765) : Int32).toUInt32 >>> ((2 : Int32).toUInt32 &&& Int32.toUInt32 31)).toInt32) &&& 858993459)) + (((((x0 - ((((x0 : Int32).toUInt32 >>> ((1 : Int32).toUInt32 &&& Int32.toUInt32 31)).toInt32) &&& 1431655765)) &&& 858993459) + ((((x0 - ((((x0 : Int32).toUInt32 >>> ((1 : Int32).toUInt32 &&& Int32.toUInt32 31)).toInt32) &&& 1431655765) : Int32).toUInt32 >>> ((2 : Int32).toUInt32 &&& Int32.toUInt32 31)).toInt32) &&& 858993459) : Int32).toUInt32 >>> ((4 : Int32).toUInt32 &&& Int32.toUInt32 31)).toInt32)) &&& 252645135 : Int32).toUInt32 >>> ((8 : Int32).toUInt32 &&& Int32.toUInt32 31)).toInt32)) + ((((((((x0 - ((((x0 : Int32).toUInt32 >>> ((1 : Int32).toUInt32 &&& Int32.toUInt32 31)).toInt32) &&& 1431655765)) &&& 858993459) + ((((x0 - ((((x0 : Int32).toUInt32 >>> ((1 : Int32).toUInt32 &&& Int32.toUInt32 31)).toInt32) &&& 1431655765) : Int32).toUInt32 >>> ((2 : Int32).toUInt32 &&& Int32.toUInt32 31)).toInt32) &&& 858993459)) + (((((x0 - ((((x0 : Int32).toUInt32 >>> ((1 : Int32).toUInt32 &&& Int32.toUInt32 31)).toInt32) &&& 1431655765)) &&& 858993459) + ((((x0 - ((((x0 : Int32).toUInt32 >>> ((1 : Int32).toUInt32 &&& Int32.toUInt32 31)).toInt32) &&& 1431655765) : Int32).toUInt32 >>> ((2 : Int32).toUInt32 &&& Int32.toUInt32 31)).toInt32) &&& 858993459) : Int32).toUInt32 >>> ((4 : Int32).toUInt32 &&& Int32.toUInt32 31)).toInt32)) &&& 252645135) + (((((((x0 - ((((x0 : Int32).toUInt32 >>> ((1 : Int32).toUInt32 &&& Int32.toUInt32 31)).toInt32) &&& 1431655765)) &&& 858993459) + ((((x0 - ((((x0 : Int32).toUInt32 >>> ((1 : Int32).toUInt32 &&& Int32.toUInt32 31)).toInt32) &&& 1431655765) : Int32).toUInt32 >>> ((2 : Int32).toUInt32 &&& Int32.toUInt32 31)).toInt32) &&& 858993459)) + (((((x0 - ((((x0 : Int32).toUInt32 >>> ((1 : Int32).toUInt32 &&& Int32.toUInt32 31)).toInt32) &&& 1431655765)) &&& 858993459) + ((((x0 - ((((x0 : Int32).toUInt32 >>> ((1 : Int32).toUInt32 &&& Int32.toUInt32 31)).toInt32) &&& 1431655765) : Int32).toUInt32 >>> ((2 : Int32).toUInt32 &&& Int32.toUInt32 31)).toInt32) &&& 858993459) : Int32).toUInt32 >>> ((4 : Int32).toUInt32 &&& Int32.toUInt32 31)).toInt32)) &&& 252645135 : Int32).toUInt32 >>> ((8 : Int32).toUInt32 &&& Int32.toUInt32 31)).toInt32) : Int32).toUInt32 >>> ((16 : Int32).toUInt32 &&& Int32.toUInt32 31)).toInt32)) q_3 rfl rfl ?_
  refine e_store (ls' := [some (.inl (((((((x0 - ((((x0 : Int32).toUInt32 >>> ((1 : Int32).toUInt32 &&& Int32.toUInt32 31)).toInt32) &&& 1431655765)) &&& 858993459) + ((((x0 - ((((x0 : Int32).toUInt32 >>> ((1 : Int32).toUInt32 &&& Int32.toUInt32 31)).toInt32) &&& 1431655765) : Int32).toUInt32 >>> ((2 : Int32).toUInt32 &&& Int32.toUInt32 31)).toInt32) &&& 858993459)) + (((((x0 - ((((x0 : Int32).toUInt32 >>> ((1 : Int32).toUInt32 &&& Int32.toUInt32 31)).toInt32) &&& 1431655765)) &&& 858993459) + ((((x0 - ((((x0 : Int32).toUInt32 >>> ((1 : Int32).toUInt32 &&& Int32.toUInt32 31)).toInt32) &&& 1431655765) : Int32).toUInt32 >>> ((2 : Int32).toUInt32 &&& Int32.toUInt32 31)).toInt32) &&& 858993459) : Int32).toUInt32 >>> ((4 : Int32).toUInt32 &&& Int32.toUInt32 31)).toInt32)) &&& 252645135) + (((((((x0 - ((((x0 : Int32).toUInt32 >>> ((1 : Int32).toUInt32 &&& Int32.toUInt32 31)).toInt32) &&& 1431655765)) &&& 858993459) + ((((x0 - ((((x0 : Int32).toUInt32 >>> ((1 : Int32).toUInt32 &&& Int32.toUInt32 31)).toInt32) &&& 1431655765) : Int32).toUInt32 >>> ((2 : Int32).toUInt32 &&& Int32.toUInt32 31)).toInt32) &&& 858993459)) + (((((x0 - ((((x0 : Int32).toUInt32 >>> ((1 : Int32).toUInt32 &&& Int32.toUInt32 31)).toInt32) &&& 1431655765)) &&& 858993459) + ((((x0 - ((((x0 : Int32).toUInt32 >>> ((1 : Int32).toUInt32 &&& Int32.toUInt32 31)).toInt32) &&& 1431655765) : Int32).toUInt32 >>> ((2 : Int32).toUInt32 &&& Int32.toUInt32 31)).toInt32) &&& 858993459) : Int32).toUInt32 >>> ((4 : Int32).toUInt32 &&& Int32.toUInt32 31)).toInt32)) &&& 252645135 : Int32).toUInt32 >>> ((8 : Int32).toUInt32 &&& Int32.toUInt32 31)).toInt32)) + ((((((((x0 - ((((x0 : Int32).toUInt32 >>> ((1 : Int32).toUInt32 &&& Int32.toUInt32 31)).toInt32) &&& 1431655765)) &&& 858993459) + ((((x0 - ((((x0 : Int32).toUInt32 >>> ((1 : Int32).toUInt32 &&& Int32.toUInt32 31)).toInt32) &&& 1431655765) : Int32).toUInt32 >>> ((2 : Int32).toUInt32 &&& Int32.toUInt32 31)).toInt32) &&& 858993459)) + (((((x0 - ((((x0 : Int32).toUInt32 >>> ((1 : Int32).toUInt32 &&& Int32.toUInt32 31)).toInt32) &&& 1431655765)) &&& 858993459) + ((((x0 - ((((x0 : Int32).toUInt32 >>> ((1 : Int32).toUInt32 &&& Int32.toUInt32 31)).toInt32) &&& 1431655765) : Int32).toUInt32 >>> ((2 : Int32).toUInt32 &&& Int32.toUInt32 31)).toInt32) &&& 858993459) : Int32).toUInt32 >>> ((4 : Int32).toUInt32 &&& Int32.toUInt32 31)).toInt32)) &&& 252645135) + (((((((x0 - ((((x0 : Int32).toUInt32 >>> ((1 : Int32).toUInt32 &&& Int32.toUInt32 31)).toInt32) &&& 1431655765)) &&& 858993459) + ((((x0 - ((((x0 : Int32).toUInt32 >>> ((1 : Int32).toUInt32 &&& Int32.toUInt32 31)).toInt32) &&& 1431655765) : Int32).toUInt32 >>> ((2 : Int32).toUInt32 &&& Int32.toUInt32 31)).toInt32) &&& 858993459)) + (((((x0 - ((((x0 : Int32).toUInt32 >>> ((1 : Int32).toUInt32 &&& Int32.toUInt32 31)).toInt32) &&& 1431655765)) &&& 858993459) + ((((x0 - ((((x0 : Int32).toUInt32 >>> ((1 : Int32).toUInt32 &&& Int32.toUInt32 31)).toInt32) &&& 1431655765) : Int32).toUInt32 >>> ((2 : Int32).toUInt32 &&& Int32.toUInt32 31)).toInt32) &&& 858993459) : Int32).toUInt32 >>> ((4 : Int32).toUInt32 &&& Int32.toUInt32 31)).toInt32)) &&& 252645135 : Int32).toUInt32 >>> ((8 : Int32).toUInt32 &&& Int32.toUInt32 31)).toInt32) : Int32).toUInt32 >>> ((16 : Int32).toUInt32 &&& Int32.toUInt32 31)).toInt32)))]) q_3 rfl (Nat.le_of_ble_eq_true rfl) rfl rfl ?_
  refine e_load q_3 rfl rfl rfl ?_
  refine e_push q_3 rfl ?_
  refine e_bin (r := (((((((x0 - ((((x0 : Int32).toUInt32 >>> ((1 : Int32).toUInt32 &&& Int32.toUInt32 31)).toInt32) &&& 1431655765)) &&& 858993459) + ((((x0 - ((((x0 : Int32).toUInt32 >>> ((1 : Int32).toUInt32 &&& Int32.toUInt32 31)).toInt32) &&& 1431655765) : Int32).toUInt32 >>> ((2 : Int32).toUInt32 &&& Int32.toUInt32 31)).toInt32) &&& 858993459)) + (((((x0 - ((((x0 : Int32).toUInt32 >>> ((1 : Int32).toUInt32 &&& Int32.toUInt32 31)).toInt32) &&& 1431655765)) &&& 858993459) + ((((x0 - ((((x0 : Int32).toUInt32 >>> ((1 : Int32).toUInt32 &&& Int32.toUInt32 31)).toInt32) &&& 1431655765) : Int32).toUInt32 >>> ((2 : Int32).toUInt32 &&& Int32.toUInt32 31)).toInt32) &&& 858993459) : Int32).toUInt32 >>> ((4 : Int32).toUInt32 &&& Int32.toUInt32 31)).toInt32)) &&& 252645135) + (((((((x0 - ((((x0 : Int32).toUInt32 >>> ((1 : Int32).toUInt32 &&& Int32.toUInt32 31)).toInt32) &&& 1431655765)) &&& 858993459) + ((((x0 - ((((x0 : Int32).toUInt32 >>> ((1 : Int32).toUInt32 &&& Int32.toUInt32 31)).toInt32) &&& 1431655765) : Int32).toUInt32 >>> ((2 : Int32).toUInt32 &&& Int32.toUInt32 31)).toInt32) &&& 858993459)) + (((((x0 - ((((x0 : Int32).toUInt32 >>> ((1 : Int32).toUInt32 &&& Int32.toUInt32 31)).toInt32) &&& 1431655765)) &&& 858993459) + ((((x0 - ((((x0 : Int32).toUInt32 >>> ((1 : Int32).toUInt32 &&& Int32.toUInt32 31)).toInt32) &&& 1431655765) : Int32).toUInt32 >>> ((2 : Int32).toUInt32 &&& Int32.toUInt32 31)).toInt32) &&& 858993459) : Int32).toUInt32 >>> ((4 : Int32).toUInt32 &&& Int32.toUInt32 31)).toInt32)) &&& 252645135 : Int32).toUInt32 >>> ((8 : Int32).toUInt32 &&& Int32.toUInt32 31)).toInt32)) + ((((((((x0 - ((((x0 : Int32).toUInt32 >>> ((1 : Int32).toUInt32 &&& Int32.toUInt32 31)).toInt32) &&& 1431655765)) &&& 858993459) + ((((x0 - ((((x0 : Int32).toUInt32 >>> ((1 : Int32).toUInt32 &&& Int32.toUInt32 31)).toInt32) &&& 1431655765) : Int32).toUInt32 >>> ((2 : Int32).toUInt32 &&& Int32.toUInt32 31)).toInt32) &&& 858993459)) + (((((x0 - ((((x0 : Int32).toUInt32 >>> ((1 : Int32).toUInt32 &&& Int32.toUInt32 31)).toInt32) &&& 1431655765)) &&& 858993459) + ((((x0 - ((((x0 : Int32).toUInt32 >>> ((1 : Int32).toUInt32 &&& Int32.toUInt32 31)).toInt32) &&& 1431655765) : Int32).toUInt32 >>> ((2 : Int32).toUInt32 &&& Int32.toUInt32 31)).toInt32) &&& 858993459) : Int32).toUInt32 >>> ((4 : Int32).toUInt32 &&& Int32.toUInt32 31)).toInt32)) &&& 252645135) + (((((((x0 - ((((x0 : Int32).toUInt32 >>> ((1 : Int32).toUInt32 &&& Int32.toUInt32 31)).toInt32) &&& 1431655765)) &&& 858993459) + ((((x0 - ((((x0 : Int32).toUInt32 >>> ((1 : Int32).toUInt32 &&& Int32.toUInt32 31)).toInt32) &&& 1431655765) : Int32).toUInt32 >>> ((2 : Int32).toUInt32 &&& Int32.toUInt32 31)).toInt32) &&& 858993459)) + (((((x0 - ((((x0 : Int32).toUInt32 >>> ((1 : Int32).toUInt32 &&& Int32.toUInt32 31)).toInt32) &&& 1431655765)) &&& 858993459) + ((((x0 - ((((x0 : Int32).toUInt32 >>> ((1 : Int32).toUInt32 &&& Int32.toUInt32 31)).toInt32) &&& 1431655765) : Int32).toUInt32 >>> ((2 : Int32).toUInt32 &&& Int32.toUInt32 31)).toInt32) &&& 858993459) : Int32).toUInt32 >>> ((4 : Int32).toUInt32 &&& Int32.toUInt32 31)).toInt32)) &&& 252645135 : Int32).toUInt32 >>> ((8 : Int32).toUInt32 &&& Int32.toUInt32 31)).toInt32) : Int32).toUInt32 >>> ((16 : Int32).toUInt32 &&& Int32.toUInt32 31)).toInt32)) &&& 63) q_3 rfl rfl ?_
  exact e_ireturn q_3 rfl rfl h
theorem q_5 : m_code 5 = mc_5 := rfl
theorem g_5_0 {S : Nat × (Nat → Int32)} {d : Nat} {σ : Mem} {Q : MQ1} {p1 : Nat} (hp1 : m_sh[p1]? = some (.inr (.inl 81))) (h : (∃ j1 j2 j3 : Nat, 0 = nI j1 ∧ 0 = nI j2 ∧ 81 = nI j3 ∧ j1 + j3 ≤ 81 ∧ j2 + j3 ≤ 81 ∧ Q [] (upr σ p1 (fun k => if j2 ≤ k ∧ k < j2 + j3 then σ 2 (j1 + (k - j2)) else σ p1 k)))) : Ev S (d + 1) 5 0 [some (.inr (some 1)), some (.inr (some p1))] [] σ Q := by
  refine e_load q_5 rfl rfl rfl ?_
  refine e_getR q_5 rfl rfl rfl ?_
  refine e_push q_5 rfl ?_
  refine e_load q_5 rfl rfl rfl ?_
  refine e_push q_5 rfl ?_
  refine e_push q_5 rfl ?_
  obtain ⟨j1, j2, j3, hjj1, hjj2, hjj3, hlj1, hlj2, h⟩ := h
  refine e_copy q_5 rfl rfl hp1 (by decide) (by decide) hjj1 hjj2 hjj3 hlj1 hlj2 (Nat.le_of_ble_eq_true rfl) ?_
  exact e_return q_5 rfl rfl h
theorem q_6 : m_code 6 = mc_6 := rfl
theorem g_6_0 {S : Nat × (Nat → Int32)} {d : Nat} {σ : Mem} {Q : MQ1} {p1 : Nat} (hp1 : m_sh[p1]? = some (.inr (.inl 81))) (h : (∃ j1 j2 j3 : Nat, 0 = nI j1 ∧ 0 = nI j2 ∧ 81 = nI j3 ∧ j1 + j3 ≤ 81 ∧ j2 + j3 ≤ 81 ∧ Q [] (upr σ 2 (fun k => if j2 ≤ k ∧ k < j2 + j3 then σ p1 (j1 + (k - j2)) else σ 2 k)))) : Ev S (d + 1) 6 0 [some (.inr (some 1)), some (.inr (some p1))] [] σ Q := by
  refine e_load q_6 rfl rfl rfl ?_
  refine e_push q_6 rfl ?_
  refine e_load q_6 rfl rfl rfl ?_
  refine e_getR q_6 rfl rfl rfl ?_
  refine e_push q_6 rfl ?_
  refine e_push q_6 rfl ?_
  obtain ⟨j1, j2, j3, hjj1, hjj2, hjj3, hlj1, hlj2, h⟩ := h
  refine e_copy q_6 rfl hp1 rfl (by decide) (by decide) hjj1 hjj2 hjj3 hlj1 hlj2 (Nat.le_of_ble_eq_true rfl) ?_
  exact e_return q_6 rfl rfl h
theorem q_7 : m_code 7 = mc_7 := rfl
theorem g_7_0 {S : Nat × (Nat → Int32)} {d : Nat} {σ : Mem} {Q : MQ1}   (h : Q [.inl (σ 2 80)] σ) : Ev S d 7 0 [some (.inr (some 1))] [] σ Q := by
  refine e_load q_7 rfl rfl rfl ?_
  refine e_getR q_7 rfl rfl rfl ?_
  refine e_push q_7 rfl ?_
  refine e_iald (j := 80) q_7 rfl rfl (by decide) (by decide +kernel) (by decide) ?_
  exact e_ireturn q_7 rfl rfl h
theorem q_8 : m_code 8 = mc_8 := rfl
theorem g_8_0 {S : Nat × (Nat → Int32)} {d : Nat} {σ : Mem} {Q : MQ1} {x1 : Int32} {x2 : Int32}  (h : (∃ j1 : Nat, (x1 * 8) + x2 = nI j1 ∧ j1 < 81 ∧ Q [.inl (σ 2 j1)] σ)) : Ev S d 8 0 [some (.inr (some 1)), some (.inl x1), some (.inl x2)] [] σ Q := by
  refine e_load q_8 rfl rfl rfl ?_
  refine e_getR q_8 rfl rfl rfl ?_
  refine e_load q_8 rfl rfl rfl ?_
  refine e_push q_8 rfl ?_
  refine e_bin (r := x1 * 8) q_8 rfl rfl ?_
  refine e_load q_8 rfl rfl rfl ?_
  refine e_bin (r := (x1 * 8) + x2) q_8 rfl rfl ?_
  obtain ⟨j1, hjj1, hlj1, h⟩ := h
  refine e_iald q_8 rfl rfl (by decide) hjj1 hlj1 ?_
  exact e_ireturn q_8 rfl rfl h
theorem q_9 : m_code 9 = mc_9 := rfl
theorem g_9_0 {S : Nat × (Nat → Int32)} {d : Nat} {σ : Mem} {Q : MQ1} {x1 : Int32} {x2 : Int32} {x3 : Int32}  (h : (∃ j1 : Nat, (x1 * 8) + x2 = nI j1 ∧ j1 < 81 ∧ Q [] (up σ 2 j1 x3))) : Ev S d 9 0 [some (.inr (some 1)), some (.inl x1), some (.inl x2), some (.inl x3)] [] σ Q := by
  refine e_load q_9 rfl rfl rfl ?_
  refine e_getR q_9 rfl rfl rfl ?_
  refine e_load q_9 rfl rfl rfl ?_
  refine e_push q_9 rfl ?_
  refine e_bin (r := x1 * 8) q_9 rfl rfl ?_
  refine e_load q_9 rfl rfl rfl ?_
  refine e_bin (r := (x1 * 8) + x2) q_9 rfl rfl ?_
  refine e_load q_9 rfl rfl rfl ?_
  obtain ⟨j1, hjj1, hlj1, h⟩ := h
  refine e_iast q_9 rfl rfl (by decide) hjj1 hlj1 ?_
  exact e_return q_9 rfl rfl h
theorem q_10 : m_code 10 = mc_10 := rfl
theorem g_10_0 {S : Nat × (Nat → Int32)} {d : Nat} {σ : Mem} {Q : MQ1} {x1 : Int32} {x2 : Int32}  (h : Ec S d 9 [.inr (some 1), .inl 0, .inl (σ 2 80), .inl x1] σ (fun rv σ' => Ev S (d + 1) 10 10 [some (.inr (some 1)), some (.inl x1), some (.inl x2), some (.inl (σ 2 80))] (rv ++ []) σ' Q)) : Ev S (d + 1) 10 0 [some (.inr (some 1)), some (.inl x1), some (.inl x2), none] [] σ Q := by
  refine e_load q_10 rfl rfl rfl ?_
  refine e_getR q_10 rfl rfl rfl ?_
  refine e_push q_10 rfl ?_
  refine e_iald (j := 80) q_10 rfl rfl (by decide) (by decide +kernel) (by decide) ?_
  refine e_store (ls' := [some (.inr (some 1)), some (.inl x1), some (.inl x2), some (.inl (σ 2 80))]) q_10 rfl (Nat.le_of_ble_eq_true rfl) rfl rfl ?_
  refine e_load q_10 rfl rfl rfl ?_
  refine e_push q_10 rfl ?_
  refine e_load q_10 rfl rfl rfl ?_
  refine e_load q_10 rfl rfl rfl ?_
  exact e_virt q_10 rfl rfl (Nat.le_of_ble_eq_true rfl) rfl rfl (Nat.le_of_ble_eq_true rfl) rfl h
theorem g_10_10 {S : Nat × (Nat → Int32)} {d : Nat} {σ : Mem} {Q : MQ1} {o1 : Option MV} {x2 : Int32} {x3 : Int32}  (h : Ec S d 9 [.inr (some 1), .inl 1, .inl x3, .inl x2] σ (fun rv σ' => Ev S (d + 1) 10 15 [some (.inr (some 1)), o1, some (.inl x2), some (.inl x3)] (rv ++ []) σ' Q)) : Ev S (d + 1) 10 10 [some (.inr (some 1)), o1, some (.inl x2), some (.inl x3)] [] σ Q := by
  refine e_load q_10 rfl rfl rfl ?_
  refine e_push q_10 rfl ?_
  refine e_load q_10 rfl rfl rfl ?_
  refine e_load q_10 rfl rfl rfl ?_
  exact e_virt q_10 rfl rfl (Nat.le_of_ble_eq_true rfl) rfl rfl (Nat.le_of_ble_eq_true rfl) rfl h
theorem g_10_15 {S : Nat × (Nat → Int32)} {d : Nat} {σ : Mem} {Q : MQ1} {o1 : Option MV} {o2 : Option MV} {x3 : Int32}  (h : Ec S d 9 [.inr (some 1), .inl 2, .inl x3, .inl 0] σ (fun rv σ' => Ev S (d + 1) 10 20 [some (.inr (some 1)), o1, o2, some (.inl x3)] (rv ++ []) σ' Q)) : Ev S (d + 1) 10 15 [some (.inr (some 1)), o1, o2, some (.inl x3)] [] σ Q := by
  refine e_load q_10 rfl rfl rfl ?_
  refine e_push q_10 rfl ?_
  refine e_load q_10 rfl rfl rfl ?_
  refine e_push q_10 rfl ?_
  exact e_virt q_10 rfl rfl (Nat.le_of_ble_eq_true rfl) rfl rfl (Nat.le_of_ble_eq_true rfl) rfl h
theorem g_10_20 {S : Nat × (Nat → Int32)} {d : Nat} {σ : Mem} {Q : MQ1} {o1 : Option MV} {o2 : Option MV} {x3 : Int32}  (h : Ec S d 9 [.inr (some 1), .inl 3, .inl x3, .inl 0] σ (fun rv σ' => Ev S (d + 1) 10 25 [some (.inr (some 1)), o1, o2, some (.inl x3)] (rv ++ []) σ' Q)) : Ev S (d + 1) 10 20 [some (.inr (some 1)), o1, o2, some (.inl x3)] [] σ Q := by
  refine e_load q_10 rfl rfl rfl ?_
  refine e_push q_10 rfl ?_
  refine e_load q_10 rfl rfl rfl ?_
  refine e_push q_10 rfl ?_
  exact e_virt q_10 rfl rfl (Nat.le_of_ble_eq_true rfl) rfl rfl (Nat.le_of_ble_eq_true rfl) rfl h
theorem g_10_25 {S : Nat × (Nat → Int32)} {d : Nat} {σ : Mem} {Q : MQ1} {o1 : Option MV} {o2 : Option MV} {x3 : Int32}  (h : Ec S d 9 [.inr (some 1), .inl 4, .inl x3, .inl 0] σ (fun rv σ' => Ev S (d + 1) 10 30 [some (.inr (some 1)), o1, o2, some (.inl x3)] (rv ++ []) σ' Q)) : Ev S (d + 1) 10 25 [some (.inr (some 1)), o1, o2, some (.inl x3)] [] σ Q := by
  refine e_load q_10 rfl rfl rfl ?_
  refine e_push q_10 rfl ?_
  refine e_load q_10 rfl rfl rfl ?_
  refine e_push q_10 rfl ?_
  exact e_virt q_10 rfl rfl (Nat.le_of_ble_eq_true rfl) rfl rfl (Nat.le_of_ble_eq_true rfl) rfl h
theorem g_10_30 {S : Nat × (Nat → Int32)} {d : Nat} {σ : Mem} {Q : MQ1} {o1 : Option MV} {o2 : Option MV} {x3 : Int32}  (h : Ec S d 9 [.inr (some 1), .inl 5, .inl x3, .inl (-1)] σ (fun rv σ' => Ev S (d + 1) 10 35 [some (.inr (some 1)), o1, o2, some (.inl x3)] (rv ++ []) σ' Q)) : Ev S (d + 1) 10 30 [some (.inr (some 1)), o1, o2, some (.inl x3)] [] σ Q := by
  refine e_load q_10 rfl rfl rfl ?_
  refine e_push q_10 rfl ?_
  refine e_load q_10 rfl rfl rfl ?_
  refine e_push q_10 rfl ?_
  exact e_virt q_10 rfl rfl (Nat.le_of_ble_eq_true rfl) rfl rfl (Nat.le_of_ble_eq_true rfl) rfl h
theorem g_10_35 {S : Nat × (Nat → Int32)} {d : Nat} {σ : Mem} {Q : MQ1} {o1 : Option MV} {o2 : Option MV} {x3 : Int32}  (h : Ec S d 9 [.inr (some 1), .inl 6, .inl x3, .inl (-1)] σ (fun rv σ' => Ev S (d + 1) 10 40 [some (.inr (some 1)), o1, o2, some (.inl x3)] (rv ++ []) σ' Q)) : Ev S (d + 1) 10 35 [some (.inr (some 1)), o1, o2, some (.inl x3)] [] σ Q := by
  refine e_load q_10 rfl rfl rfl ?_
  refine e_push q_10 rfl ?_
  refine e_load q_10 rfl rfl rfl ?_
  refine e_push q_10 rfl ?_
  exact e_virt q_10 rfl rfl (Nat.le_of_ble_eq_true rfl) rfl rfl (Nat.le_of_ble_eq_true rfl) rfl h
theorem g_10_40 {S : Nat × (Nat → Int32)} {d : Nat} {σ : Mem} {Q : MQ1} {o1 : Option MV} {o2 : Option MV} {x3 : Int32}  (h : Ec S d 9 [.inr (some 1), .inl 7, .inl x3, .inl 0] σ (fun rv σ' => Ev S (d + 1) 10 45 [some (.inr (some 1)), o1, o2, some (.inl x3)] (rv ++ []) σ' Q)) : Ev S (d + 1) 10 40 [some (.inr (some 1)), o1, o2, some (.inl x3)] [] σ Q := by
  refine e_load q_10 rfl rfl rfl ?_
  refine e_push q_10 rfl ?_
  refine e_load q_10 rfl rfl rfl ?_
  refine e_push q_10 rfl ?_
  exact e_virt q_10 rfl rfl (Nat.le_of_ble_eq_true rfl) rfl rfl (Nat.le_of_ble_eq_true rfl) rfl h
theorem g_10_45 {S : Nat × (Nat → Int32)} {d : Nat} {σ : Mem} {Q : MQ1} {o1 : Option MV} {o2 : Option MV} {x3 : Int32}  (h : Ec S d 9 [.inr (some 1), .inl 8, .inl x3, .inl (-1)] σ (fun rv σ' => Ev S (d + 1) 10 50 [some (.inr (some 1)), o1, o2, some (.inl x3)] (rv ++ []) σ' Q)) : Ev S (d + 1) 10 45 [some (.inr (some 1)), o1, o2, some (.inl x3)] [] σ Q := by
  refine e_load q_10 rfl rfl rfl ?_
  refine e_push q_10 rfl ?_
  refine e_load q_10 rfl rfl rfl ?_
  refine e_push q_10 rfl ?_
  exact e_virt q_10 rfl rfl (Nat.le_of_ble_eq_true rfl) rfl rfl (Nat.le_of_ble_eq_true rfl) rfl h
theorem g_10_50 {S : Nat × (Nat → Int32)} {d : Nat} {σ : Mem} {Q : MQ1} {o1 : Option MV} {o2 : Option MV} {x3 : Int32}  (h : Q [.inl x3] (up σ 2 80 (x3 + 1))) : Ev S (d + 1) 10 50 [some (.inr (some 1)), o1, o2, some (.inl x3)] [] σ Q := by
  refine e_load q_10 rfl rfl rfl ?_
  refine e_getR q_10 rfl rfl rfl ?_
  refine e_push q_10 rfl ?_
  refine e_load q_10 rfl rfl rfl ?_
  refine e_push q_10 rfl ?_
  refine e_bin (r := x3 + 1) q_10 rfl rfl ?_
  refine e_iast (j := 80) q_10 rfl rfl (by decide) (by decide +kernel) (by decide) ?_
  refine e_load q_10 rfl rfl rfl ?_
  exact e_ireturn q_10 rfl rfl h
theorem q_11 : m_code 11 = mc_11 := rfl
theorem g_11_0 {S : Nat × (Nat → Int32)} {d : Nat} {σ : Mem} {Q : MQ1} {x1 : Int32} {x2 : Int32}  (h : Ec S d 8 [.inr (some 1), .inl 0, .inl x1] σ (fun rv σ' => Ev S (d + 1) 11 4 [some (.inr (some 1)), some (.inl x1), some (.inl x2), none] (rv ++ []) σ' Q)) : Ev S (d + 1) 11 0 [some (.inr (some 1)), some (.inl x1), some (.inl x2), none] [] σ Q := by
  refine e_load q_11 rfl rfl rfl ?_
  refine e_push q_11 rfl ?_
  refine e_load q_11 rfl rfl rfl ?_
  exact e_virt q_11 rfl rfl (Nat.le_of_ble_eq_true rfl) rfl rfl (Nat.le_of_ble_eq_true rfl) rfl h
theorem g_11_4 {S : Nat × (Nat → Int32)} {d : Nat} {σ : Mem} {Q : MQ1} {o0 : Option MV} {o1 : Option MV} {x2 : Int32} {o3 : Option MV} {y0 : Int32}  (h : ((x2 = 0 → Q [.inl 1] σ) ∧ (¬ (x2 = 0) → ((x2 = y0 → Q [.inl 1] σ) ∧ (¬ (x2 = y0) → (((¬ x2 = 1) → Q [.inl 0] σ) ∧ (¬ (¬ x2 = 1) → (((¬ y0 = 3) → Q [.inl 0] σ) ∧ (¬ (¬ y0 = 3) → Q [.inl 1] σ))))))))) : Ev S (d + 1) 11 4 [o0, o1, some (.inl x2), o3] [.inl y0] σ Q := by
  refine e_store (ls' := [o0, o1, some (.inl x2), some (.inl y0)]) q_11 rfl (Nat.le_of_ble_eq_true rfl) rfl rfl ?_
  refine e_load q_11 rfl rfl rfl ?_
  refine e_if (P := x2 = 0) q_11 rfl m_c0 (fun c => ?_) (fun c => ?_)
  · replace h := h.1 c
    refine e_push q_11 rfl ?_
    refine e_goto q_11 rfl ?_
    exact e_zreturn q_11 rfl rfl (by decide) h
  · replace h := h.2 c
    refine e_load q_11 rfl rfl rfl ?_
    refine e_load q_11 rfl rfl rfl ?_
    refine e_icmp (P := x2 = y0) q_11 rfl m_c0 (fun c => ?_) (fun c => ?_)
    · replace h := h.1 c
      refine e_push q_11 rfl ?_
      refine e_goto q_11 rfl ?_
      exact e_zreturn q_11 rfl rfl (by decide) h
    · replace h := h.2 c
      refine e_load q_11 rfl rfl rfl ?_
      refine e_push q_11 rfl ?_
      refine e_icmp (P := ¬ x2 = 1) q_11 rfl m_c1 (fun c => ?_) (fun c => ?_)
      · replace h := h.1 c
        refine e_push q_11 rfl ?_
        exact e_zreturn q_11 rfl rfl (by decide) h
      · replace h := h.2 c
        refine e_load q_11 rfl rfl rfl ?_
        refine e_push q_11 rfl ?_
        refine e_icmp (P := ¬ y0 = 3) q_11 rfl m_c1 (fun c => ?_) (fun c => ?_)
        · replace h := h.1 c
          refine e_push q_11 rfl ?_
          exact e_zreturn q_11 rfl rfl (by decide) h
        · replace h := h.2 c
          refine e_push q_11 rfl ?_
          refine e_goto q_11 rfl ?_
          exact e_zreturn q_11 rfl rfl (by decide) h
theorem q_12 : m_code 12 = mc_12 := rfl
theorem g_12_0 {S : Nat × (Nat → Int32)} {d : Nat} {σ : Mem} {Q : MQ1} {x1 : Int32}  (h : (∃ j1 : Nat, 0 + x1 = nI j1 ∧ j1 < 81 ∧ (((¬ (σ 2 j1) = 2) → Q [.inl 0] σ) ∧ (¬ (¬ (σ 2 j1) = 2) → Q [.inl 1] σ)))) : Ev S d 12 0 [some (.inr (some 1)), some (.inl x1)] [] σ Q := by
  refine e_load q_12 rfl rfl rfl ?_
  refine e_getR q_12 rfl rfl rfl ?_
  refine e_push q_12 rfl ?_
  refine e_load q_12 rfl rfl rfl ?_
  refine e_bin (r := 0 + x1) q_12 rfl rfl ?_
  obtain ⟨j1, hjj1, hlj1, h⟩ := h
  refine e_iald q_12 rfl rfl (by decide) hjj1 hlj1 ?_
  refine e_push q_12 rfl ?_
  refine e_icmp (P := ¬ (σ 2 j1) = 2) q_12 rfl m_c1 (fun c => ?_) (fun c => ?_)
  · replace h := h.1 c
    refine e_push q_12 rfl ?_
    exact e_zreturn q_12 rfl rfl (by decide) h
  · replace h := h.2 c
    refine e_push q_12 rfl ?_
    refine e_goto q_12 rfl ?_
    exact e_zreturn q_12 rfl rfl (by decide) h
theorem q_13 : m_code 13 = mc_13 := rfl
theorem g_13_0 {S : Nat × (Nat → Int32)} {d : Nat} {σ : Mem} {Q : MQ1} {x1 : Int32}  (h : Ec S d 12 [.inr (some 1), .inl x1] σ (fun rv σ' => Ev S (d + 1) 13 3 [some (.inr (some 1)), some (.inl x1)] (rv ++ []) σ' Q)) : Ev S (d + 1) 13 0 [some (.inr (some 1)), some (.inl x1)] [] σ Q := by
  refine e_load q_13 rfl rfl rfl ?_
  refine e_load q_13 rfl rfl rfl ?_
  exact e_virt q_13 rfl rfl (Nat.le_of_ble_eq_true rfl) rfl rfl (Nat.le_of_ble_eq_true rfl) rfl h
theorem g_13_3 {S : Nat × (Nat → Int32)} {d : Nat} {σ : Mem} {Q : MQ1} {x1 : Int32} {y0 : Int32}  (h : (((¬ y0 = 0) → Q [.inl 1] σ) ∧ (¬ (¬ y0 = 0) → Ec S d 8 [.inr (some 1), .inl 5, .inl x1] σ (fun rv σ' => Ev S (d + 1) 13 8 [some (.inr (some 1)), some (.inl x1)] (rv ++ []) σ' Q)))) : Ev S (d + 1) 13 3 [some (.inr (some 1)), some (.inl x1)] [.inl y0] σ Q := by
  refine e_if (P := ¬ y0 = 0) q_13 rfl m_c1 (fun c => ?_) (fun c => ?_)
  · replace h := h.1 c
    refine e_push q_13 rfl ?_
    refine e_goto q_13 rfl ?_
    exact e_zreturn q_13 rfl rfl (by decide) h
  · replace h := h.2 c
    refine e_load q_13 rfl rfl rfl ?_
    refine e_push q_13 rfl ?_
    refine e_load q_13 rfl rfl rfl ?_
    exact e_virt q_13 rfl rfl (Nat.le_of_ble_eq_true rfl) rfl rfl (Nat.le_of_ble_eq_true rfl) rfl h
theorem g_13_8 {S : Nat × (Nat → Int32)} {d : Nat} {σ : Mem} {Q : MQ1} {o0 : Option MV} {o1 : Option MV} {y0 : Int32}  (h : ((y0 = (-1) → Q [.inl 0] σ) ∧ (¬ (y0 = (-1)) → Q [.inl 1] σ))) : Ev S (d + 1) 13 8 [o0, o1] [.inl y0] σ Q := by
  refine e_push q_13 rfl ?_
  refine e_icmp (P := y0 = (-1)) q_13 rfl m_c0 (fun c => ?_) (fun c => ?_)
  · replace h := h.1 c
    refine e_push q_13 rfl ?_
    exact e_zreturn q_13 rfl rfl (by decide) h
  · replace h := h.2 c
    refine e_push q_13 rfl ?_
    refine e_goto q_13 rfl ?_
    exact e_zreturn q_13 rfl rfl (by decide) h
theorem q_14 : m_code 14 = mc_14 := rfl
theorem g_14_0 {S : Nat × (Nat → Int32)} {d : Nat} {σ : Mem} {Q : MQ1}   (h : Ev S (d + 1) 14 4 [some (.inr (some 1)), some (.inl 0), some (.inl 0)] [] σ Q) : Ev S (d + 1) 14 0 [some (.inr (some 1)), none, none] [] σ Q := by
  refine e_push q_14 rfl ?_
  refine e_store (ls' := [some (.inr (some 1)), some (.inl 0), none]) q_14 rfl (Nat.le_of_ble_eq_true rfl) rfl rfl ?_
  refine e_push q_14 rfl ?_
  refine e_store (ls' := [some (.inr (some 1)), some (.inl 0), some (.inl 0)]) q_14 rfl (Nat.le_of_ble_eq_true rfl) rfl rfl ?_
  exact h
theorem g_14_4 {S : Nat × (Nat → Int32)} {d : Nat} {σ : Mem} {Q : MQ1} {x1 : Int32} {x2 : Int32}  (h : Ec S d 7 [.inr (some 1)] σ (fun rv σ' => Ev S (d + 1) 14 7 [some (.inr (some 1)), some (.inl x1), some (.inl x2)] (rv ++ [.inl x2]) σ' Q)) : Ev S (d + 1) 14 4 [some (.inr (some 1)), some (.inl x1), some (.inl x2)] [] σ Q := by
  refine e_load q_14 rfl rfl rfl ?_
  refine e_load q_14 rfl rfl rfl ?_
  exact e_virt q_14 rfl rfl (Nat.le_of_ble_eq_true rfl) rfl rfl (Nat.le_of_ble_eq_true rfl) rfl h
theorem g_14_7 {S : Nat × (Nat → Int32)} {d : Nat} {σ : Mem} {Q : MQ1} {x1 : Int32} {x2 : Int32} {y0 : Int32} {y1 : Int32}  (h : ((y1 ≤ y0 → Q [.inl x1] σ) ∧ (¬ (y1 ≤ y0) → Ec S d 12 [.inr (some 1), .inl x2] σ (fun rv σ' => Ev S (d + 1) 14 12 [some (.inr (some 1)), some (.inl x1), some (.inl x2)] (rv ++ [.inl x1]) σ' Q)))) : Ev S (d + 1) 14 7 [some (.inr (some 1)), some (.inl x1), some (.inl x2)] [.inl y1, .inl y0] σ Q := by
  refine e_icmp (P := y1 ≤ y0) q_14 rfl m_c3 (fun c => ?_) (fun c => ?_)
  · replace h := h.1 c
    refine e_load q_14 rfl rfl rfl ?_
    exact e_ireturn q_14 rfl rfl h
  · replace h := h.2 c
    refine e_load q_14 rfl rfl rfl ?_
    refine e_load q_14 rfl rfl rfl ?_
    refine e_load q_14 rfl rfl rfl ?_
    exact e_virt q_14 rfl rfl (Nat.le_of_ble_eq_true rfl) rfl rfl (Nat.le_of_ble_eq_true rfl) rfl h
theorem g_14_12 {S : Nat × (Nat → Int32)} {d : Nat} {σ : Mem} {Q : MQ1} {o1 : Option MV} {x2 : Int32} {y0 : Int32} {y1 : Int32}  (h : ((y1 = 0 → Ev S (d + 1) 14 4 [some (.inr (some 1)), some (.inl (y0 + 0)), some (.inl (x2 + 1))] [] σ Q) ∧ (¬ (y1 = 0) → Ev S (d + 1) 14 4 [some (.inr (some 1)), some (.inl (y0 + 1)), some (.inl (x2 + 1))] [] σ Q))) : Ev S (d + 1) 14 12 [some (.inr (some 1)), o1, some (.inl x2)] [.inl y1, .inl y0] σ Q := by
  refine e_if (P := y1 = 0) q_14 rfl m_c0 (fun c => ?_) (fun c => ?_)
  · replace h := h.1 c
    refine e_push q_14 rfl ?_
    refine e_bin (r := y0 + 0) q_14 rfl rfl ?_
    refine e_store (ls' := [some (.inr (some 1)), some (.inl (y0 + 0)), some (.inl x2)]) q_14 rfl (Nat.le_of_ble_eq_true rfl) rfl rfl ?_
    refine e_iinc (ls' := [some (.inr (some 1)), some (.inl (y0 + 0)), some (.inl (x2 + 1))]) q_14 rfl rfl rfl ?_
    refine e_goto q_14 rfl ?_
    exact h
  · replace h := h.2 c
    refine e_push q_14 rfl ?_
    refine e_goto q_14 rfl ?_
    refine e_bin (r := y0 + 1) q_14 rfl rfl ?_
    refine e_store (ls' := [some (.inr (some 1)), some (.inl (y0 + 1)), some (.inl x2)]) q_14 rfl (Nat.le_of_ble_eq_true rfl) rfl rfl ?_
    refine e_iinc (ls' := [some (.inr (some 1)), some (.inl (y0 + 1)), some (.inl (x2 + 1))]) q_14 rfl rfl rfl ?_
    refine e_goto q_14 rfl ?_
    exact h
theorem q_15 : m_code 15 = mc_15 := rfl
theorem g_15_0 {S : Nat × (Nat → Int32)} {d : Nat} {σ : Mem} {Q : MQ1} {x1 : Int32}  (h : Ev S (d + 1) 15 4 [some (.inr (some 1)), some (.inl x1), some (.inl 0), some (.inl 0), none, none] [] σ Q) : Ev S (d + 1) 15 0 [some (.inr (some 1)), some (.inl x1), none, none, none, none] [] σ Q := by
  refine e_push q_15 rfl ?_
  refine e_store (ls' := [some (.inr (some 1)), some (.inl x1), some (.inl 0), none, none, none]) q_15 rfl (Nat.le_of_ble_eq_true rfl) rfl rfl ?_
  refine e_push q_15 rfl ?_
  refine e_store (ls' := [some (.inr (some 1)), some (.inl x1), some (.inl 0), some (.inl 0), none, none]) q_15 rfl (Nat.le_of_ble_eq_true rfl) rfl rfl ?_
  exact h
theorem g_15_4 {S : Nat × (Nat → Int32)} {d : Nat} {σ : Mem} {Q : MQ1} {x1 : Int32} {x2 : Int32} {x3 : Int32} {o4 : Option MV} {o5 : Option MV}  (h : ((8 ≤ x3 → Q [.inl x2] σ) ∧ (¬ (8 ≤ x3) → Ev S (d + 1) 15 13 [some (.inr (some 1)), some (.inl x1), some (.inl x2), some (.inl x3), some (.inl (x1 ||| x2)), some (.inl 0)] [] σ Q))) : Ev S (d + 1) 15 4 [some (.inr (some 1)), some (.inl x1), some (.inl x2), some (.inl x3), o4, o5] [] σ Q := by
  refine e_load q_15 rfl rfl rfl ?_
  refine e_push q_15 rfl ?_
  refine e_icmp (P := 8 ≤ x3) q_15 rfl m_c3 (fun c => ?_) (fun c => ?_)
  · replace h := h.1 c
    refine e_load q_15 rfl rfl rfl ?_
    exact e_ireturn q_15 rfl rfl h
  · replace h := h.2 c
    refine e_load q_15 rfl rfl rfl ?_
    refine e_load q_15 rfl rfl rfl ?_
    refine e_bin (r := x1 ||| x2) q_15 rfl rfl ?_
    refine e_store (ls' := [some (.inr (some 1)), some (.inl x1), some (.inl x2), some (.inl x3), some (.inl (x1 ||| x2)), o5]) q_15 rfl (Nat.le_of_ble_eq_true rfl) rfl rfl ?_
    refine e_push q_15 rfl ?_
    refine e_store (ls' := [some (.inr (some 1)), some (.inl x1), some (.inl x2), some (.inl x3), some (.inl (x1 ||| x2)), some (.inl 0)]) q_15 rfl (Nat.le_of_ble_eq_true rfl) rfl rfl ?_
    exact h
theorem g_15_13 {S : Nat × (Nat → Int32)} {d : Nat} {σ : Mem} {Q : MQ1} {x1 : Int32} {x2 : Int32} {x3 : Int32} {x4 : Int32} {x5 : Int32}  (h : Ec S d 7 [.inr (some 1)] σ (fun rv σ' => Ev S (d + 1) 15 16 [some (.inr (some 1)), some (.inl x1), some (.inl x2), some (.inl x3), some (.inl x4), some (.inl x5)] (rv ++ [.inl x5]) σ' Q)) : Ev S (d + 1) 15 13 [some (.inr (some 1)), some (.inl x1), some (.inl x2), some (.inl x3), some (.inl x4), some (.inl x5)] [] σ Q := by
  refine e_load q_15 rfl rfl rfl ?_
  refine e_load q_15 rfl rfl rfl ?_
  exact e_virt q_15 rfl rfl (Nat.le_of_ble_eq_true rfl) rfl rfl (Nat.le_of_ble_eq_true rfl) rfl h
theorem g_15_16 {S : Nat × (Nat → Int32)} {d : Nat} {σ : Mem} {Q : MQ1} {x1 : Int32} {x2 : Int32} {x3 : Int32} {x4 : Int32} {x5 : Int32} {y0 : Int32} {y1 : Int32}  (h : ((y1 ≤ y0 → Ev S (d + 1) 15 4 [some (.inr (some 1)), some (.inl x1), some (.inl x2), some (.inl (x3 + 1)), some (.inl x4), some (.inl x5)] [] σ Q) ∧ (¬ (y1 ≤ y0) → Ec S d 110 [.inl x4, .inl x5] σ (fun rv σ' => Ev S (d + 1) 15 20 [some (.inr (some 1)), some (.inl x1), some (.inl x2), some (.inl x3), some (.inl x4), some (.inl x5)] (rv ++ []) σ' Q)))) : Ev S (d + 1) 15 16 [some (.inr (some 1)), some (.inl x1), some (.inl x2), some (.inl x3), some (.inl x4), some (.inl x5)] [.inl y1, .inl y0] σ Q := by
  refine e_icmp (P := y1 ≤ y0) q_15 rfl m_c3 (fun c => ?_) (fun c => ?_)
  · replace h := h.1 c
    refine e_iinc (ls' := [some (.inr (some 1)), some (.inl x1), some (.inl x2), some (.inl (x3 + 1)), some (.inl x4), some (.inl x5)]) q_15 rfl rfl rfl ?_
    refine e_goto q_15 rfl ?_
    exact h
  · replace h := h.2 c
    refine e_load q_15 rfl rfl rfl ?_
    refine e_load q_15 rfl rfl rfl ?_
    exact e_stat q_15 rfl (Nat.le_of_ble_eq_true rfl) rfl rfl (Nat.le_of_ble_eq_true rfl) h
theorem g_15_20 {S : Nat × (Nat → Int32)} {d : Nat} {σ : Mem} {Q : MQ1} {x1 : Int32} {x2 : Int32} {x3 : Int32} {x4 : Int32} {x5 : Int32} {y0 : Int32}  (h : ((y0 = 0 → Ev S (d + 1) 15 13 [some (.inr (some 1)), some (.inl x1), some (.inl x2), some (.inl x3), some (.inl x4), some (.inl (x5 + 1))] [] σ Q) ∧ (¬ (y0 = 0) → Ec S d 8 [.inr (some 1), .inl 2, .inl x5] σ (fun rv σ' => Ev S (d + 1) 15 26 [some (.inr (some 1)), some (.inl x1), some (.inl x2), some (.inl x3), some (.inl x4), some (.inl x5)] (rv ++ [.inl x2]) σ' Q)))) : Ev S (d + 1) 15 20 [some (.inr (some 1)), some (.inl x1), some (.inl x2), some (.inl x3), some (.inl x4), some (.inl x5)] [.inl y0] σ Q := by
  refine e_if (P := y0 = 0) q_15 rfl m_c0 (fun c => ?_) (fun c => ?_)
  · replace h := h.1 c
    refine e_iinc (ls' := [some (.inr (some 1)), some (.inl x1), some (.inl x2), some (.inl x3), some (.inl x4), some (.inl (x5 + 1))]) q_15 rfl rfl rfl ?_
    refine e_goto q_15 rfl ?_
    exact h
  · replace h := h.2 c
    refine e_load q_15 rfl rfl rfl ?_
    refine e_load q_15 rfl rfl rfl ?_
    refine e_push q_15 rfl ?_
    refine e_load q_15 rfl rfl rfl ?_
    exact e_virt q_15 rfl rfl (Nat.le_of_ble_eq_true rfl) rfl rfl (Nat.le_of_ble_eq_true rfl) rfl h
theorem g_15_26 {S : Nat × (Nat → Int32)} {d : Nat} {σ : Mem} {Q : MQ1} {x1 : Int32} {o2 : Option MV} {x3 : Int32} {x4 : Int32} {x5 : Int32} {y0 : Int32} {y1 : Int32}  (h : Ev S (d + 1) 15 13 [some (.inr (some 1)), some (.inl x1), some (.inl (y0 ||| y1)), some (.inl x3), some (.inl x4), some (.inl (x5 + 1))] [] σ Q) : Ev S (d + 1) 15 26 [some (.inr (some 1)), some (.inl x1), o2, some (.inl x3), some (.inl x4), some (.inl x5)] [.inl y1, .inl y0] σ Q := by
  refine e_bin (r := y0 ||| y1) q_15 rfl rfl ?_
  refine e_store (ls' := [some (.inr (some 1)), some (.inl x1), some (.inl (y0 ||| y1)), some (.inl x3), some (.inl x4), some (.inl x5)]) q_15 rfl (Nat.le_of_ble_eq_true rfl) rfl rfl ?_
  refine e_iinc (ls' := [some (.inr (some 1)), some (.inl x1), some (.inl (y0 ||| y1)), some (.inl x3), some (.inl x4), some (.inl (x5 + 1))]) q_15 rfl rfl rfl ?_
  refine e_goto q_15 rfl ?_
  exact h
theorem q_16 : m_code 16 = mc_16 := rfl
theorem g_16_0 {S : Nat × (Nat → Int32)} {d : Nat} {σ : Mem} {Q : MQ1} {x1 : Int32}  (h : (∃ j1 : Nat, 72 + x1 = nI j1 ∧ j1 < 81 ∧ Q [.inl (σ 2 j1)] σ)) : Ev S d 16 0 [some (.inr (some 1)), some (.inl x1)] [] σ Q := by
  refine e_load q_16 rfl rfl rfl ?_
  refine e_getR q_16 rfl rfl rfl ?_
  refine e_push q_16 rfl ?_
  refine e_load q_16 rfl rfl rfl ?_
  refine e_bin (r := 72 + x1) q_16 rfl rfl ?_
  obtain ⟨j1, hjj1, hlj1, h⟩ := h
  refine e_iald q_16 rfl rfl (by decide) hjj1 hlj1 ?_
  exact e_ireturn q_16 rfl rfl h
theorem q_17 : m_code 17 = mc_17 := rfl
theorem g_17_0 {S : Nat × (Nat → Int32)} {d : Nat} {σ : Mem} {Q : MQ1} {x1 : Int32} {x2 : Int32}  (h : (∃ j1 : Nat, 72 + x1 = nI j1 ∧ j1 < 81 ∧ Q [] (up σ 2 j1 x2))) : Ev S d 17 0 [some (.inr (some 1)), some (.inl x1), some (.inl x2)] [] σ Q := by
  refine e_load q_17 rfl rfl rfl ?_
  refine e_getR q_17 rfl rfl rfl ?_
  refine e_push q_17 rfl ?_
  refine e_load q_17 rfl rfl rfl ?_
  refine e_bin (r := 72 + x1) q_17 rfl rfl ?_
  refine e_load q_17 rfl rfl rfl ?_
  obtain ⟨j1, hjj1, hlj1, h⟩ := h
  refine e_iast q_17 rfl rfl (by decide) hjj1 hlj1 ?_
  exact e_return q_17 rfl rfl h
theorem q_18 : m_code 18 = mc_18 := rfl
theorem g_18_0 {S : Nat × (Nat → Int32)} {d : Nat} {σ : Mem} {Q : MQ1} {x1 : Int32}  (h : Ec S d 110 [.inl (σ 2 78), .inl x1] σ (fun rv σ' => Ev S (d + 1) 18 6 [some (.inr (some 1)), some (.inl x1)] (rv ++ []) σ' Q)) : Ev S (d + 1) 18 0 [some (.inr (some 1)), some (.inl x1)] [] σ Q := by
  refine e_load q_18 rfl rfl rfl ?_
  refine e_getR q_18 rfl rfl rfl ?_
  refine e_push q_18 rfl ?_
  refine e_iald (j := 78) q_18 rfl rfl (by decide) (by decide +kernel) (by decide) ?_
  refine e_load q_18 rfl rfl rfl ?_
  exact e_stat q_18 rfl (Nat.le_of_ble_eq_true rfl) rfl rfl (Nat.le_of_ble_eq_true rfl) h
theorem g_18_6 {S : Nat × (Nat → Int32)} {d : Nat} {σ : Mem} {Q : MQ1} {o0 : Option MV} {o1 : Option MV} {y0 : Int32}  (h : ((y0 = 0 ∨ y0 = 1) ∧ Q [.inl y0] σ)) : Ev S (d + 1) 18 6 [o0, o1] [.inl y0] σ Q := by
  exact e_zreturn q_18 rfl rfl h.1 h.2
theorem q_19 : m_code 19 = mc_19 := rfl
theorem g_19_0 {S : Nat × (Nat → Int32)} {d : Nat} {σ : Mem} {Q : MQ1} {x1 : Int32} {x2 : Int32}  (h : Ec S d 111 [.inl (σ 2 78), .inl x1, .inl x2] σ (fun rv σ' => Ev S (d + 1) 19 10 [some (.inr (some 1)), some (.inl x1), some (.inl x2)] (rv ++ [.inl 78, .inr (some 2)]) σ' Q)) : Ev S (d + 1) 19 0 [some (.inr (some 1)), some (.inl x1), some (.inl x2)] [] σ Q := by
  refine e_load q_19 rfl rfl rfl ?_
  refine e_getR q_19 rfl rfl rfl ?_
  refine e_push q_19 rfl ?_
  refine e_load q_19 rfl rfl rfl ?_
  refine e_getR q_19 rfl rfl rfl ?_
  refine e_push q_19 rfl ?_
  refine e_iald (j := 78) q_19 rfl rfl (by decide) (by decide +kernel) (by decide) ?_
  refine e_load q_19 rfl rfl rfl ?_
  refine e_load q_19 rfl rfl rfl ?_
  exact e_stat q_19 rfl (Nat.le_of_ble_eq_true rfl) rfl rfl (Nat.le_of_ble_eq_true rfl) h
theorem g_19_10 {S : Nat × (Nat → Int32)} {d : Nat} {σ : Mem} {Q : MQ1} {o0 : Option MV} {o1 : Option MV} {o2 : Option MV} {y1 : Int32} {y2 : Int32}  (h : (∃ j1 : Nat, y1 = nI j1 ∧ j1 < 81 ∧ Q [] (up σ 2 j1 y2))) : Ev S (d + 1) 19 10 [o0, o1, o2] [.inl y2, .inl y1, .inr (some 2)] σ Q := by
  obtain ⟨j1, hjj1, hlj1, h⟩ := h
  refine e_iast q_19 rfl rfl (by decide) hjj1 hlj1 ?_
  exact e_return q_19 rfl rfl h
theorem q_20 : m_code 20 = mc_20 := rfl
theorem g_20_0 {S : Nat × (Nat → Int32)} {d : Nat} {σ : Mem} {Q : MQ1}   (h : Ec S d 3 [.inl (σ 2 78)] σ (fun rv σ' => Ev S (d + 1) 20 5 [some (.inr (some 1))] (rv ++ []) σ' Q)) : Ev S (d + 1) 20 0 [some (.inr (some 1))] [] σ Q := by
  refine e_load q_20 rfl rfl rfl ?_
  refine e_getR q_20 rfl rfl rfl ?_
  refine e_push q_20 rfl ?_
  refine e_iald (j := 78) q_20 rfl rfl (by decide) (by decide +kernel) (by decide) ?_
  exact e_stat q_20 rfl (Nat.le_of_ble_eq_true rfl) rfl rfl (Nat.le_of_ble_eq_true rfl) h
theorem g_20_5 {S : Nat × (Nat → Int32)} {d : Nat} {σ : Mem} {Q : MQ1} {o0 : Option MV} {y0 : Int32}  (h : Q [.inl y0] σ) : Ev S (d + 1) 20 5 [o0] [.inl y0] σ Q := by
  exact e_ireturn q_20 rfl rfl h
theorem q_21 : m_code 21 = mc_21 := rfl
theorem g_21_0 {S : Nat × (Nat → Int32)} {d : Nat} {σ : Mem} {Q : MQ1} {x1 : Int32}  (h : Ev S (d + 1) 21 4 [some (.inr (some 1)), some (.inl x1), some (.inl 0), some (.inl 0)] [] σ Q) : Ev S (d + 1) 21 0 [some (.inr (some 1)), some (.inl x1), none, none] [] σ Q := by
  refine e_push q_21 rfl ?_
  refine e_store (ls' := [some (.inr (some 1)), some (.inl x1), some (.inl 0), none]) q_21 rfl (Nat.le_of_ble_eq_true rfl) rfl rfl ?_
  refine e_push q_21 rfl ?_
  refine e_store (ls' := [some (.inr (some 1)), some (.inl x1), some (.inl 0), some (.inl 0)]) q_21 rfl (Nat.le_of_ble_eq_true rfl) rfl rfl ?_
  exact h
theorem g_21_4 {S : Nat × (Nat → Int32)} {d : Nat} {σ : Mem} {Q : MQ1} {x1 : Int32} {x2 : Int32} {x3 : Int32}  (h : ((x1 < x3 → Q [.inl x2] σ) ∧ (¬ (x1 < x3) → Ec S d 18 [.inr (some 1), .inl x3] σ (fun rv σ' => Ev S (d + 1) 21 11 [some (.inr (some 1)), some (.inl x1), some (.inl x2), some (.inl x3)] (rv ++ [.inl x2]) σ' Q)))) : Ev S (d + 1) 21 4 [some (.inr (some 1)), some (.inl x1), some (.inl x2), some (.inl x3)] [] σ Q := by
  refine e_load q_21 rfl rfl rfl ?_
  refine e_load q_21 rfl rfl rfl ?_
  refine e_icmp (P := x1 < x3) q_21 rfl m_c4 (fun c => ?_) (fun c => ?_)
  · replace h := h.1 c
    refine e_load q_21 rfl rfl rfl ?_
    exact e_ireturn q_21 rfl rfl h
  · replace h := h.2 c
    refine e_load q_21 rfl rfl rfl ?_
    refine e_load q_21 rfl rfl rfl ?_
    refine e_load q_21 rfl rfl rfl ?_
    exact e_virt q_21 rfl rfl (Nat.le_of_ble_eq_true rfl) rfl rfl (Nat.le_of_ble_eq_true rfl) rfl h
theorem g_21_11 {S : Nat × (Nat → Int32)} {d : Nat} {σ : Mem} {Q : MQ1} {x1 : Int32} {o2 : Option MV} {x3 : Int32} {y0 : Int32} {y1 : Int32}  (h : ((y1 = 0 → Ev S (d + 1) 21 4 [some (.inr (some 1)), some (.inl x1), some (.inl (y0 + 1)), some (.inl (x3 + 1))] [] σ Q) ∧ (¬ (y1 = 0) → Ev S (d + 1) 21 4 [some (.inr (some 1)), some (.inl x1), some (.inl (y0 + 0)), some (.inl (x3 + 1))] [] σ Q))) : Ev S (d + 1) 21 11 [some (.inr (some 1)), some (.inl x1), o2, some (.inl x3)] [.inl y1, .inl y0] σ Q := by
  refine e_if (P := y1 = 0) q_21 rfl m_c0 (fun c => ?_) (fun c => ?_)
  · replace h := h.1 c
    refine e_push q_21 rfl ?_
    refine e_bin (r := y0 + 1) q_21 rfl rfl ?_
    refine e_store (ls' := [some (.inr (some 1)), some (.inl x1), some (.inl (y0 + 1)), some (.inl x3)]) q_21 rfl (Nat.le_of_ble_eq_true rfl) rfl rfl ?_
    refine e_iinc (ls' := [some (.inr (some 1)), some (.inl x1), some (.inl (y0 + 1)), some (.inl (x3 + 1))]) q_21 rfl rfl rfl ?_
    refine e_goto q_21 rfl ?_
    exact h
  · replace h := h.2 c
    refine e_push q_21 rfl ?_
    refine e_goto q_21 rfl ?_
    refine e_bin (r := y0 + 0) q_21 rfl rfl ?_
    refine e_store (ls' := [some (.inr (some 1)), some (.inl x1), some (.inl (y0 + 0)), some (.inl x3)]) q_21 rfl (Nat.le_of_ble_eq_true rfl) rfl rfl ?_
    refine e_iinc (ls' := [some (.inr (some 1)), some (.inl x1), some (.inl (y0 + 0)), some (.inl (x3 + 1))]) q_21 rfl rfl rfl ?_
    refine e_goto q_21 rfl ?_
    exact h
theorem q_22 : m_code 22 = mc_22 := rfl
theorem g_22_0 {S : Nat × (Nat → Int32)} {d : Nat} {σ : Mem} {Q : MQ1}   (h : Q [.inl (σ 2 79)] σ) : Ev S d 22 0 [some (.inr (some 1))] [] σ Q := by
  refine e_load q_22 rfl rfl rfl ?_
  refine e_getR q_22 rfl rfl rfl ?_
  refine e_push q_22 rfl ?_
  refine e_iald (j := 79) q_22 rfl rfl (by decide) (by decide +kernel) (by decide) ?_
  exact e_ireturn q_22 rfl rfl h
theorem q_23 : m_code 23 = mc_23 := rfl
theorem g_23_0 {S : Nat × (Nat → Int32)} {d : Nat} {σ : Mem} {Q : MQ1} {x1 : Int32}  (h : Q [] (up σ 2 79 x1)) : Ev S d 23 0 [some (.inr (some 1)), some (.inl x1)] [] σ Q := by
  refine e_load q_23 rfl rfl rfl ?_
  refine e_getR q_23 rfl rfl rfl ?_
  refine e_push q_23 rfl ?_
  refine e_load q_23 rfl rfl rfl ?_
  refine e_iast (j := 79) q_23 rfl rfl (by decide) (by decide +kernel) (by decide) ?_
  exact e_return q_23 rfl rfl h
theorem q_25 : m_code 25 = mc_25 := rfl
theorem g_25_0 {S : Nat × (Nat → Int32)} {d : Nat} {σ : Mem} {Q : MQ1}   (h : (((¬ (σ 24 2) = 0) → Q [.inl 0] σ) ∧ (¬ (¬ (σ 24 2) = 0) → Q [.inl 1] σ))) : Ev S d 25 0 [some (.inr (some 24))] [] σ Q := by
  refine e_load q_25 rfl rfl rfl ?_
  refine e_getI q_25 rfl rfl rfl ?_
  refine e_if (P := ¬ (σ 24 2) = 0) q_25 rfl m_c1 (fun c => ?_) (fun c => ?_)
  · replace h := h.1 c
    refine e_push q_25 rfl ?_
    exact e_zreturn q_25 rfl rfl (by decide) h
  · replace h := h.2 c
    refine e_push q_25 rfl ?_
    refine e_goto q_25 rfl ?_
    exact e_zreturn q_25 rfl rfl (by decide) h
theorem q_26 : m_code 26 = mc_26 := rfl
theorem g_26_0 {S : Nat × (Nat → Int32)} {d : Nat} {σ : Mem} {Q : MQ1}   (h : (∃ j1 : Nat, σ 24 1 = nI j1 ∧ j1 < 25 ∧ Ec S d 5 [.inr (some 1), .inr (some (26 + j1))] σ (fun rv σ' => Ev S (d + 1) 26 7 [some (.inr (some 24)), some (.inr (some 1))] (rv ++ []) σ' Q))) : Ev S (d + 1) 26 0 [some (.inr (some 24)), some (.inr (some 1))] [] σ Q := by
  refine e_load q_26 rfl rfl rfl ?_
  refine e_load q_26 rfl rfl rfl ?_
  refine e_getR q_26 rfl rfl rfl ?_
  refine e_load q_26 rfl rfl rfl ?_
  refine e_getI q_26 rfl rfl rfl ?_
  obtain ⟨j1, hjj1, hlj1, h⟩ := h
  have hr2 := sh_row hlj1
  refine e_aald (q := 26 + j1) q_26 rfl rfl (by decide) hjj1 (sh_rows hlj1) (by omega) ?_
  exact e_virt q_26 rfl rfl (Nat.le_of_ble_eq_true rfl) rfl rfl (Nat.le_of_ble_eq_true rfl) rfl h
theorem g_26_7 {S : Nat × (Nat → Int32)} {d : Nat} {σ : Mem} {Q : MQ1} {o1 : Option MV}  (h : ((25 ≤ ((σ 24 1) + 1) → Q [] (up (up σ 24 1 0) 24 2 (if 25 < ((up σ 24 1 0) 24 2) + 1 then 25 else ((up σ 24 1 0) 24 2) + 1))) ∧ (¬ (25 ≤ ((σ 24 1) + 1)) → Q [] (up (up σ 24 1 ((σ 24 1) + 1)) 24 2 (if 25 < ((up σ 24 1 ((σ 24 1) + 1)) 24 2) + 1 then 25 else ((up σ 24 1 ((σ 24 1) + 1)) 24 2) + 1))))) : Ev S (d + 1) 26 7 [some (.inr (some 24)), o1] [] σ Q := by
  refine e_load q_26 rfl rfl rfl ?_
  refine e_load q_26 rfl rfl rfl ?_
  refine e_getI q_26 rfl rfl rfl ?_
  refine e_push q_26 rfl ?_
  refine e_bin (r := (σ 24 1) + 1) q_26 rfl rfl ?_
  refine e_push q_26 rfl ?_
  refine e_icmp (P := 25 ≤ ((σ 24 1) + 1)) q_26 rfl m_c3 (fun c => ?_) (fun c => ?_)
  · replace h := h.1 c
    refine e_push q_26 rfl ?_
    refine e_putI q_26 rfl rfl rfl ?_
    refine e_load q_26 rfl rfl rfl ?_
    refine e_load q_26 rfl rfl rfl ?_
    refine e_getI q_26 rfl rfl rfl ?_
    refine e_push q_26 rfl ?_
    refine e_bin (r := ((up σ 24 1 0) 24 2) + 1) q_26 rfl rfl ?_
    refine e_push q_26 rfl ?_
    refine e_min (r := (if 25 < ((up σ 24 1 0) 24 2) + 1 then 25 else ((up σ 24 1 0) 24 2) + 1)) q_26 rfl (Nat.le_of_ble_eq_true rfl) rfl ?_
    refine e_putI q_26 rfl rfl rfl ?_
    exact e_return q_26 rfl rfl h
  · replace h := h.2 c
    refine e_load q_26 rfl rfl rfl ?_
    refine e_getI q_26 rfl rfl rfl ?_
    refine e_push q_26 rfl ?_
    refine e_bin (r := (σ 24 1) + 1) q_26 rfl rfl ?_
    refine e_goto q_26 rfl ?_
    refine e_putI q_26 rfl rfl rfl ?_
    refine e_load q_26 rfl rfl rfl ?_
    refine e_load q_26 rfl rfl rfl ?_
    refine e_getI q_26 rfl rfl rfl ?_
    refine e_push q_26 rfl ?_
    refine e_bin (r := ((up σ 24 1 ((σ 24 1) + 1)) 24 2) + 1) q_26 rfl rfl ?_
    refine e_push q_26 rfl ?_
    refine e_min (r := (if 25 < ((up σ 24 1 ((σ 24 1) + 1)) 24 2) + 1 then 25 else ((up σ 24 1 ((σ 24 1) + 1)) 24 2) + 1)) q_26 rfl (Nat.le_of_ble_eq_true rfl) rfl ?_
    refine e_putI q_26 rfl rfl rfl ?_
    exact e_return q_26 rfl rfl h
theorem q_27 : m_code 27 = mc_27 := rfl
theorem g_27_0 {S : Nat × (Nat → Int32)} {d : Nat} {σ : Mem} {Q : MQ1}   (h : (((σ 24 1) ≤ 0 → (∃ j1 : Nat, (up (up σ 24 1 24) 24 2 (((up σ 24 1 24) 24 2) - 1)) 24 1 = nI j1 ∧ j1 < 25 ∧ Ec S d 6 [.inr (some 1), .inr (some (26 + j1))] (up (up σ 24 1 24) 24 2 (((up σ 24 1 24) 24 2) - 1)) (fun rv σ' => Ev S (d + 1) 27 24 [some (.inr (some 24)), some (.inr (some 1))] (rv ++ []) σ' Q))) ∧ (¬ ((σ 24 1) ≤ 0) → (∃ j3 : Nat, (up (up σ 24 1 ((σ 24 1) - 1)) 24 2 (((up σ 24 1 ((σ 24 1) - 1)) 24 2) - 1)) 24 1 = nI j3 ∧ j3 < 25 ∧ Ec S d 6 [.inr (some 1), .inr (some (26 + j3))] (up (up σ 24 1 ((σ 24 1) - 1)) 24 2 (((up σ 24 1 ((σ 24 1) - 1)) 24 2) - 1)) (fun rv σ' => Ev S (d + 1) 27 24 [some (.inr (some 24)), some (.inr (some 1))] (rv ++ []) σ' Q))))) : Ev S (d + 1) 27 0 [some (.inr (some 24)), some (.inr (some 1))] [] σ Q := by
  refine e_load q_27 rfl rfl rfl ?_
  refine e_load q_27 rfl rfl rfl ?_
  refine e_getI q_27 rfl rfl rfl ?_
  refine e_if (P := (σ 24 1) ≤ 0) q_27 rfl m_c5 (fun c => ?_) (fun c => ?_)
  · replace h := h.1 c
    refine e_push q_27 rfl ?_
    refine e_putI q_27 rfl rfl rfl ?_
    refine e_load q_27 rfl rfl rfl ?_
    refine e_dup q_27 rfl ?_
    refine e_getI q_27 rfl rfl rfl ?_
    refine e_push q_27 rfl ?_
    refine e_bin (r := ((up σ 24 1 24) 24 2) - 1) q_27 rfl rfl ?_
    refine e_putI q_27 rfl rfl rfl ?_
    refine e_load q_27 rfl rfl rfl ?_
    refine e_load q_27 rfl rfl rfl ?_
    refine e_getR q_27 rfl rfl rfl ?_
    refine e_load q_27 rfl rfl rfl ?_
    refine e_getI q_27 rfl rfl rfl ?_
    obtain ⟨j1, hjj1, hlj1, h⟩ := h
    have hr2 := sh_row hlj1
    refine e_aald (q := 26 + j1) q_27 rfl rfl (by decide) hjj1 (sh_rows hlj1) (by omega) ?_
    exact e_virt q_27 rfl rfl (Nat.le_of_ble_eq_true rfl) rfl rfl (Nat.le_of_ble_eq_true rfl) rfl h
  · replace h := h.2 c
    refine e_load q_27 rfl rfl rfl ?_
    refine e_getI q_27 rfl rfl rfl ?_
    refine e_push q_27 rfl ?_
    refine e_bin (r := (σ 24 1) - 1) q_27 rfl rfl ?_
    refine e_goto q_27 rfl ?_
    refine e_putI q_27 rfl rfl rfl ?_
    refine e_load q_27 rfl rfl rfl ?_
    refine e_dup q_27 rfl ?_
    refine e_getI q_27 rfl rfl rfl ?_
    refine e_push q_27 rfl ?_
    refine e_bin (r := ((up σ 24 1 ((σ 24 1) - 1)) 24 2) - 1) q_27 rfl rfl ?_
    refine e_putI q_27 rfl rfl rfl ?_
    refine e_load q_27 rfl rfl rfl ?_
    refine e_load q_27 rfl rfl rfl ?_
    refine e_getR q_27 rfl rfl rfl ?_
    refine e_load q_27 rfl rfl rfl ?_
    refine e_getI q_27 rfl rfl rfl ?_
    obtain ⟨j3, hjj3, hlj3, h⟩ := h
    have hr4 := sh_row hlj3
    refine e_aald (q := 26 + j3) q_27 rfl rfl (by decide) hjj3 (sh_rows hlj3) (by omega) ?_
    exact e_virt q_27 rfl rfl (Nat.le_of_ble_eq_true rfl) rfl rfl (Nat.le_of_ble_eq_true rfl) rfl h
theorem g_27_24 {S : Nat × (Nat → Int32)} {d : Nat} {σ : Mem} {Q : MQ1} {o1 : Option MV}  (h : Q [.inl (σ 24 2)] σ) : Ev S (d + 1) 27 24 [some (.inr (some 24)), o1] [] σ Q := by
  refine e_load q_27 rfl rfl rfl ?_
  refine e_getI q_27 rfl rfl rfl ?_
  exact e_ireturn q_27 rfl rfl h
theorem q_29 : m_code 29 = mc_29 := rfl
theorem g_29_0 {S : Nat × (Nat → Int32)} {d : Nat} {σ : Mem} {Q : MQ1}   (h : Ev S (d + 1) 29 2 [some (.inr (some 3)), some (.inl 1), none] [] σ Q) : Ev S (d + 1) 29 0 [some (.inr (some 3)), none, none] [] σ Q := by
  refine e_push q_29 rfl ?_
  refine e_store (ls' := [some (.inr (some 3)), some (.inl 1), none]) q_29 rfl (Nat.le_of_ble_eq_true rfl) rfl rfl ?_
  exact h
theorem g_29_2 {S : Nat × (Nat → Int32)} {d : Nat} {σ : Mem} {Q : MQ1} {x1 : Int32} {o2 : Option MV}  (h : ((5 < x1 → Ev S (d + 1) 29 34 [some (.inr (some 3)), some (.inl 0), o2] [] σ Q) ∧ (¬ (5 < x1) → Ev S (d + 1) 29 7 [some (.inr (some 3)), some (.inl x1), some (.inl 0)] [] σ Q))) : Ev S (d + 1) 29 2 [some (.inr (some 3)), some (.inl x1), o2] [] σ Q := by
  refine e_load q_29 rfl rfl rfl ?_
  refine e_push q_29 rfl ?_
  refine e_icmp (P := 5 < x1) q_29 rfl m_c4 (fun c => ?_) (fun c => ?_)
  · replace h := h.1 c
    refine e_push q_29 rfl ?_
    refine e_store (ls' := [some (.inr (some 3)), some (.inl 0), o2]) q_29 rfl (Nat.le_of_ble_eq_true rfl) rfl rfl ?_
    exact h
  · replace h := h.2 c
    refine e_push q_29 rfl ?_
    refine e_store (ls' := [some (.inr (some 3)), some (.inl x1), some (.inl 0)]) q_29 rfl (Nat.le_of_ble_eq_true rfl) rfl rfl ?_
    exact h
theorem g_29_34 {S : Nat × (Nat → Int32)} {d : Nat} {σ : Mem} {Q : MQ1} {x1 : Int32} {o2 : Option MV}  (h : ((6 ≤ x1 → Ev S (d + 1) 29 54 [some (.inr (some 3)), some (.inl 0), o2] [] σ Q) ∧ (¬ (6 ≤ x1) → Ec S d 18 [.inr (some 1), .inl x1] σ (fun rv σ' => Ev S (d + 1) 29 41 [some (.inr (some 3)), some (.inl x1), o2] (rv ++ []) σ' Q)))) : Ev S (d + 1) 29 34 [some (.inr (some 3)), some (.inl x1), o2] [] σ Q := by
  refine e_load q_29 rfl rfl rfl ?_
  refine e_push q_29 rfl ?_
  refine e_icmp (P := 6 ≤ x1) q_29 rfl m_c3 (fun c => ?_) (fun c => ?_)
  · replace h := h.1 c
    refine e_push q_29 rfl ?_
    refine e_store (ls' := [some (.inr (some 3)), some (.inl 0), o2]) q_29 rfl (Nat.le_of_ble_eq_true rfl) rfl rfl ?_
    exact h
  · replace h := h.2 c
    refine e_load q_29 rfl rfl rfl ?_
    refine e_getR q_29 rfl rfl rfl ?_
    refine e_load q_29 rfl rfl rfl ?_
    exact e_virt q_29 rfl rfl (Nat.le_of_ble_eq_true rfl) rfl rfl (Nat.le_of_ble_eq_true rfl) rfl h
theorem g_29_7 {S : Nat × (Nat → Int32)} {d : Nat} {σ : Mem} {Q : MQ1} {x1 : Int32} {x2 : Int32}  (h : Ec S d 7 [.inr (some 1)] σ (fun rv σ' => Ev S (d + 1) 29 11 [some (.inr (some 3)), some (.inl x1), some (.inl x2)] (rv ++ [.inl x2]) σ' Q)) : Ev S (d + 1) 29 7 [some (.inr (some 3)), some (.inl x1), some (.inl x2)] [] σ Q := by
  refine e_load q_29 rfl rfl rfl ?_
  refine e_load q_29 rfl rfl rfl ?_
  refine e_getR q_29 rfl rfl rfl ?_
  exact e_virt q_29 rfl rfl (Nat.le_of_ble_eq_true rfl) rfl rfl (Nat.le_of_ble_eq_true rfl) rfl h
theorem g_29_54 {S : Nat × (Nat → Int32)} {d : Nat} {σ : Mem} {Q : MQ1} {x1 : Int32} {o2 : Option MV}  (h : ((6 ≤ x1 → Q [.inl 0] σ) ∧ (¬ (6 ≤ x1) → Ec S d 30 [.inr (some 3), .inl x1] σ (fun rv σ' => Ev S (d + 1) 29 60 [some (.inr (some 3)), some (.inl x1), o2] (rv ++ []) σ' Q)))) : Ev S (d + 1) 29 54 [some (.inr (some 3)), some (.inl x1), o2] [] σ Q := by
  refine e_load q_29 rfl rfl rfl ?_
  refine e_push q_29 rfl ?_
  refine e_icmp (P := 6 ≤ x1) q_29 rfl m_c3 (fun c => ?_) (fun c => ?_)
  · replace h := h.1 c
    refine e_push q_29 rfl ?_
    exact e_ireturn q_29 rfl rfl h
  · replace h := h.2 c
    refine e_load q_29 rfl rfl rfl ?_
    refine e_load q_29 rfl rfl rfl ?_
    exact e_virt q_29 rfl rfl (Nat.le_of_ble_eq_true rfl) rfl rfl (Nat.le_of_ble_eq_true rfl) rfl h
theorem g_29_41 {S : Nat × (Nat → Int32)} {d : Nat} {σ : Mem} {Q : MQ1} {x1 : Int32} {o2 : Option MV} {y0 : Int32}  (h : ((y0 = 0 → Ev S (d + 1) 29 34 [some (.inr (some 3)), some (.inl (x1 + 1)), o2] [] σ Q) ∧ (¬ (y0 = 0) → Ec S d 30 [.inr (some 3), .inl x1] σ (fun rv σ' => Ev S (d + 1) 29 45 [some (.inr (some 3)), some (.inl x1), o2] (rv ++ []) σ' Q)))) : Ev S (d + 1) 29 41 [some (.inr (some 3)), some (.inl x1), o2] [.inl y0] σ Q := by
  refine e_if (P := y0 = 0) q_29 rfl m_c0 (fun c => ?_) (fun c => ?_)
  · replace h := h.1 c
    refine e_iinc (ls' := [some (.inr (some 3)), some (.inl (x1 + 1)), o2]) q_29 rfl rfl rfl ?_
    refine e_goto q_29 rfl ?_
    exact h
  · replace h := h.2 c
    refine e_load q_29 rfl rfl rfl ?_
    refine e_load q_29 rfl rfl rfl ?_
    exact e_virt q_29 rfl rfl (Nat.le_of_ble_eq_true rfl) rfl rfl (Nat.le_of_ble_eq_true rfl) rfl h
theorem g_29_11 {S : Nat × (Nat → Int32)} {d : Nat} {σ : Mem} {Q : MQ1} {x1 : Int32} {x2 : Int32} {y0 : Int32} {y1 : Int32}  (h : ((y1 ≤ y0 → Ev S (d + 1) 29 2 [some (.inr (some 3)), some (.inl (x1 + 1)), some (.inl x2)] [] σ Q) ∧ (¬ (y1 ≤ y0) → Ec S d 12 [.inr (some 1), .inl x2] σ (fun rv σ' => Ev S (d + 1) 29 16 [some (.inr (some 3)), some (.inl x1), some (.inl x2)] (rv ++ []) σ' Q)))) : Ev S (d + 1) 29 11 [some (.inr (some 3)), some (.inl x1), some (.inl x2)] [.inl y1, .inl y0] σ Q := by
  refine e_icmp (P := y1 ≤ y0) q_29 rfl m_c3 (fun c => ?_) (fun c => ?_)
  · replace h := h.1 c
    refine e_iinc (ls' := [some (.inr (some 3)), some (.inl (x1 + 1)), some (.inl x2)]) q_29 rfl rfl rfl ?_
    refine e_goto q_29 rfl ?_
    exact h
  · replace h := h.2 c
    refine e_load q_29 rfl rfl rfl ?_
    refine e_getR q_29 rfl rfl rfl ?_
    refine e_load q_29 rfl rfl rfl ?_
    exact e_virt q_29 rfl rfl (Nat.le_of_ble_eq_true rfl) rfl rfl (Nat.le_of_ble_eq_true rfl) rfl h
theorem g_29_60 {S : Nat × (Nat → Int32)} {d : Nat} {σ : Mem} {Q : MQ1} {x1 : Int32} {o2 : Option MV} {y0 : Int32}  (h : Ec S d 16 [.inr (some 1), .inl x1] σ (fun rv σ' => Ev S (d + 1) 29 64 [some (.inr (some 3)), some (.inl x1), o2] (rv ++ [.inl y0]) σ' Q)) : Ev S (d + 1) 29 60 [some (.inr (some 3)), some (.inl x1), o2] [.inl y0] σ Q := by
  refine e_load q_29 rfl rfl rfl ?_
  refine e_getR q_29 rfl rfl rfl ?_
  refine e_load q_29 rfl rfl rfl ?_
  exact e_virt q_29 rfl rfl (Nat.le_of_ble_eq_true rfl) rfl rfl (Nat.le_of_ble_eq_true rfl) rfl h
theorem g_29_45 {S : Nat × (Nat → Int32)} {d : Nat} {σ : Mem} {Q : MQ1} {x1 : Int32} {o2 : Option MV} {y0 : Int32}  (h : ((y0 = 0 → Ev S (d + 1) 29 34 [some (.inr (some 3)), some (.inl (x1 + 1)), o2] [] σ Q) ∧ (¬ (y0 = 0) → Q [.inl (600 + x1)] σ))) : Ev S (d + 1) 29 45 [some (.inr (some 3)), some (.inl x1), o2] [.inl y0] σ Q := by
  refine e_if (P := y0 = 0) q_29 rfl m_c0 (fun c => ?_) (fun c => ?_)
  · replace h := h.1 c
    refine e_iinc (ls' := [some (.inr (some 3)), some (.inl (x1 + 1)), o2]) q_29 rfl rfl rfl ?_
    refine e_goto q_29 rfl ?_
    exact h
  · replace h := h.2 c
    refine e_push q_29 rfl ?_
    refine e_load q_29 rfl rfl rfl ?_
    refine e_bin (r := 600 + x1) q_29 rfl rfl ?_
    exact e_ireturn q_29 rfl rfl h
theorem g_29_16 {S : Nat × (Nat → Int32)} {d : Nat} {σ : Mem} {Q : MQ1} {x1 : Int32} {x2 : Int32} {y0 : Int32}  (h : (((¬ y0 = 0) → Ev S (d + 1) 29 7 [some (.inr (some 3)), some (.inl x1), some (.inl (x2 + 1))] [] σ Q) ∧ (¬ (¬ y0 = 0) → Ec S d 35 [.inr (some 3), .inl x1, .inl x2] σ (fun rv σ' => Ev S (d + 1) 29 21 [some (.inr (some 3)), some (.inl x1), some (.inl x2)] (rv ++ []) σ' Q)))) : Ev S (d + 1) 29 16 [some (.inr (some 3)), some (.inl x1), some (.inl x2)] [.inl y0] σ Q := by
  refine e_if (P := ¬ y0 = 0) q_29 rfl m_c1 (fun c => ?_) (fun c => ?_)
  · replace h := h.1 c
    refine e_iinc (ls' := [some (.inr (some 3)), some (.inl x1), some (.inl (x2 + 1))]) q_29 rfl rfl rfl ?_
    refine e_goto q_29 rfl ?_
    exact h
  · replace h := h.2 c
    refine e_load q_29 rfl rfl rfl ?_
    refine e_load q_29 rfl rfl rfl ?_
    refine e_load q_29 rfl rfl rfl ?_
    exact e_virt q_29 rfl rfl (Nat.le_of_ble_eq_true rfl) rfl rfl (Nat.le_of_ble_eq_true rfl) rfl h
theorem g_29_64 {S : Nat × (Nat → Int32)} {d : Nat} {σ : Mem} {Q : MQ1} {x1 : Int32} {o2 : Option MV} {y0 : Int32} {y1 : Int32}  (h : ((y0 ≤ y1 → Ev S (d + 1) 29 54 [some (.inr (some 3)), some (.inl (x1 + 1)), o2] [] σ Q) ∧ (¬ (y0 ≤ y1) → Q [.inl (700 + x1)] σ))) : Ev S (d + 1) 29 64 [some (.inr (some 3)), some (.inl x1), o2] [.inl y1, .inl y0] σ Q := by
  refine e_icmp (P := y0 ≤ y1) q_29 rfl m_c5 (fun c => ?_) (fun c => ?_)
  · replace h := h.1 c
    refine e_iinc (ls' := [some (.inr (some 3)), some (.inl (x1 + 1)), o2]) q_29 rfl rfl rfl ?_
    refine e_goto q_29 rfl ?_
    exact h
  · replace h := h.2 c
    refine e_push q_29 rfl ?_
    refine e_load q_29 rfl rfl rfl ?_
    refine e_bin (r := 700 + x1) q_29 rfl rfl ?_
    exact e_ireturn q_29 rfl rfl h
theorem g_29_21 {S : Nat × (Nat → Int32)} {d : Nat} {σ : Mem} {Q : MQ1} {x1 : Int32} {x2 : Int32} {y0 : Int32}  (h : (((¬ y0 = 0) → Ev S (d + 1) 29 7 [some (.inr (some 3)), some (.inl x1), some (.inl (x2 + 1))] [] σ Q) ∧ (¬ (¬ y0 = 0) → Q [.inl ((100 * x1) + x2)] σ))) : Ev S (d + 1) 29 21 [some (.inr (some 3)), some (.inl x1), some (.inl x2)] [.inl y0] σ Q := by
  refine e_if (P := ¬ y0 = 0) q_29 rfl m_c1 (fun c => ?_) (fun c => ?_)
  · replace h := h.1 c
    refine e_iinc (ls' := [some (.inr (some 3)), some (.inl x1), some (.inl (x2 + 1))]) q_29 rfl rfl rfl ?_
    refine e_goto q_29 rfl ?_
    exact h
  · replace h := h.2 c
    refine e_push q_29 rfl ?_
    refine e_load q_29 rfl rfl rfl ?_
    refine e_bin (r := 100 * x1) q_29 rfl rfl ?_
    refine e_load q_29 rfl rfl rfl ?_
    refine e_bin (r := (100 * x1) + x2) q_29 rfl rfl ?_
    exact e_ireturn q_29 rfl rfl h
theorem q_30 : m_code 30 = mc_30 := rfl
theorem g_30_0 {S : Nat × (Nat → Int32)} {d : Nat} {σ : Mem} {Q : MQ1} {x1 : Int32}  (h : Ec S d 31 [.inr (some 3), .inl x1] σ (fun rv σ' => Ev S (d + 1) 30 3 [some (.inr (some 3)), some (.inl x1), none, none] (rv ++ []) σ' Q)) : Ev S (d + 1) 30 0 [some (.inr (some 3)), some (.inl x1), none, none] [] σ Q := by
  refine e_load q_30 rfl rfl rfl ?_
  refine e_load q_30 rfl rfl rfl ?_
  exact e_virt q_30 rfl rfl (Nat.le_of_ble_eq_true rfl) rfl rfl (Nat.le_of_ble_eq_true rfl) rfl h
theorem g_30_3 {S : Nat × (Nat → Int32)} {d : Nat} {σ : Mem} {Q : MQ1} {x1 : Int32} {o2 : Option MV} {o3 : Option MV} {y0 : Int32}  (h : Ev S (d + 1) 30 6 [some (.inr (some 3)), some (.inl x1), some (.inl y0), some (.inl 0)] [] σ Q) : Ev S (d + 1) 30 3 [some (.inr (some 3)), some (.inl x1), o2, o3] [.inl y0] σ Q := by
  refine e_store (ls' := [some (.inr (some 3)), some (.inl x1), some (.inl y0), o3]) q_30 rfl (Nat.le_of_ble_eq_true rfl) rfl rfl ?_
  refine e_push q_30 rfl ?_
  refine e_store (ls' := [some (.inr (some 3)), some (.inl x1), some (.inl y0), some (.inl 0)]) q_30 rfl (Nat.le_of_ble_eq_true rfl) rfl rfl ?_
  exact h
theorem g_30_6 {S : Nat × (Nat → Int32)} {d : Nat} {σ : Mem} {Q : MQ1} {x1 : Int32} {x2 : Int32} {x3 : Int32}  (h : Ec S d 7 [.inr (some 1)] σ (fun rv σ' => Ev S (d + 1) 30 10 [some (.inr (some 3)), some (.inl x1), some (.inl x2), some (.inl x3)] (rv ++ [.inl x3]) σ' Q)) : Ev S (d + 1) 30 6 [some (.inr (some 3)), some (.inl x1), some (.inl x2), some (.inl x3)] [] σ Q := by
  refine e_load q_30 rfl rfl rfl ?_
  refine e_load q_30 rfl rfl rfl ?_
  refine e_getR q_30 rfl rfl rfl ?_
  exact e_virt q_30 rfl rfl (Nat.le_of_ble_eq_true rfl) rfl rfl (Nat.le_of_ble_eq_true rfl) rfl h
theorem g_30_10 {S : Nat × (Nat → Int32)} {d : Nat} {σ : Mem} {Q : MQ1} {x1 : Int32} {x2 : Int32} {x3 : Int32} {y0 : Int32} {y1 : Int32}  (h : ((y1 ≤ y0 → Q [.inl x2] σ) ∧ (¬ (y1 ≤ y0) → Ec S d 8 [.inr (some 1), .inl 5, .inl x3] σ (fun rv σ' => Ev S (d + 1) 30 16 [some (.inr (some 3)), some (.inl x1), some (.inl x2), some (.inl x3)] (rv ++ []) σ' Q)))) : Ev S (d + 1) 30 10 [some (.inr (some 3)), some (.inl x1), some (.inl x2), some (.inl x3)] [.inl y1, .inl y0] σ Q := by
  refine e_icmp (P := y1 ≤ y0) q_30 rfl m_c3 (fun c => ?_) (fun c => ?_)
  · replace h := h.1 c
    refine e_load q_30 rfl rfl rfl ?_
    exact e_ireturn q_30 rfl rfl h
  · replace h := h.2 c
    refine e_load q_30 rfl rfl rfl ?_
    refine e_getR q_30 rfl rfl rfl ?_
    refine e_push q_30 rfl ?_
    refine e_load q_30 rfl rfl rfl ?_
    exact e_virt q_30 rfl rfl (Nat.le_of_ble_eq_true rfl) rfl rfl (Nat.le_of_ble_eq_true rfl) rfl h
theorem g_30_16 {S : Nat × (Nat → Int32)} {d : Nat} {σ : Mem} {Q : MQ1} {x1 : Int32} {x2 : Int32} {x3 : Int32} {y0 : Int32}  (h : (((¬ y0 = x1) → Ec S d 8 [.inr (some 1), .inl 6, .inl x3] σ (fun rv σ' => Ev S (d + 1) 30 31 [some (.inr (some 3)), some (.inl x1), some (.inl x2), some (.inl x3)] (rv ++ []) σ' Q)) ∧ (¬ (¬ y0 = x1) → Ec S d 8 [.inr (some 1), .inl 1, .inl x3] σ (fun rv σ' => Ev S (d + 1) 30 24 [some (.inr (some 3)), some (.inl x1), some (.inl x2), some (.inl x3)] (rv ++ [.inl x2]) σ' Q)))) : Ev S (d + 1) 30 16 [some (.inr (some 3)), some (.inl x1), some (.inl x2), some (.inl x3)] [.inl y0] σ Q := by
  refine e_load q_30 rfl rfl rfl ?_
  refine e_icmp (P := ¬ y0 = x1) q_30 rfl m_c1 (fun c => ?_) (fun c => ?_)
  · replace h := h.1 c
    refine e_load q_30 rfl rfl rfl ?_
    refine e_getR q_30 rfl rfl rfl ?_
    refine e_push q_30 rfl ?_
    refine e_load q_30 rfl rfl rfl ?_
    exact e_virt q_30 rfl rfl (Nat.le_of_ble_eq_true rfl) rfl rfl (Nat.le_of_ble_eq_true rfl) rfl h
  · replace h := h.2 c
    refine e_load q_30 rfl rfl rfl ?_
    refine e_load q_30 rfl rfl rfl ?_
    refine e_getR q_30 rfl rfl rfl ?_
    refine e_push q_30 rfl ?_
    refine e_load q_30 rfl rfl rfl ?_
    exact e_virt q_30 rfl rfl (Nat.le_of_ble_eq_true rfl) rfl rfl (Nat.le_of_ble_eq_true rfl) rfl h
theorem g_30_31 {S : Nat × (Nat → Int32)} {d : Nat} {σ : Mem} {Q : MQ1} {x1 : Int32} {x2 : Int32} {x3 : Int32} {y0 : Int32}  (h : (((¬ y0 = x1) → Ev S (d + 1) 30 6 [some (.inr (some 3)), some (.inl x1), some (.inl x2), some (.inl (x3 + 1))] [] σ Q) ∧ (¬ (¬ y0 = x1) → Ev S (d + 1) 30 6 [some (.inr (some 3)), some (.inl x1), some (.inl (x2 + 1)), some (.inl (x3 + 1))] [] σ Q))) : Ev S (d + 1) 30 31 [some (.inr (some 3)), some (.inl x1), some (.inl x2), some (.inl x3)] [.inl y0] σ Q := by
  refine e_load q_30 rfl rfl rfl ?_
  refine e_icmp (P := ¬ y0 = x1) q_30 rfl m_c1 (fun c => ?_) (fun c => ?_)
  · replace h := h.1 c
    refine e_iinc (ls' := [some (.inr (some 3)), some (.inl x1), some (.inl x2), some (.inl (x3 + 1))]) q_30 rfl rfl rfl ?_
    refine e_goto q_30 rfl ?_
    exact h
  · replace h := h.2 c
    refine e_iinc (ls' := [some (.inr (some 3)), some (.inl x1), some (.inl (x2 + 1)), some (.inl x3)]) q_30 rfl rfl rfl ?_
    refine e_iinc (ls' := [some (.inr (some 3)), some (.inl x1), some (.inl (x2 + 1)), some (.inl (x3 + 1))]) q_30 rfl rfl rfl ?_
    refine e_goto q_30 rfl ?_
    exact h
theorem g_30_24 {S : Nat × (Nat → Int32)} {d : Nat} {σ : Mem} {Q : MQ1} {x1 : Int32} {o2 : Option MV} {x3 : Int32} {y0 : Int32} {y1 : Int32}  (h : Ec S d 8 [.inr (some 1), .inl 6, .inl x3] σ (fun rv σ' => Ev S (d + 1) 30 31 [some (.inr (some 3)), some (.inl x1), some (.inl (y0 + y1)), some (.inl x3)] (rv ++ []) σ' Q)) : Ev S (d + 1) 30 24 [some (.inr (some 3)), some (.inl x1), o2, some (.inl x3)] [.inl y1, .inl y0] σ Q := by
  refine e_bin (r := y0 + y1) q_30 rfl rfl ?_
  refine e_store (ls' := [some (.inr (some 3)), some (.inl x1), some (.inl (y0 + y1)), some (.inl x3)]) q_30 rfl (Nat.le_of_ble_eq_true rfl) rfl rfl ?_
  refine e_load q_30 rfl rfl rfl ?_
  refine e_getR q_30 rfl rfl rfl ?_
  refine e_push q_30 rfl ?_
  refine e_load q_30 rfl rfl rfl ?_
  exact e_virt q_30 rfl rfl (Nat.le_of_ble_eq_true rfl) rfl rfl (Nat.le_of_ble_eq_true rfl) rfl h
theorem q_31 : m_code 31 = mc_31 := rfl
theorem g_31_0 {S : Nat × (Nat → Int32)} {d : Nat} {σ : Mem} {Q : MQ1} {x1 : Int32}  (h : Ec S d 18 [.inr (some 1), .inl x1] σ (fun rv σ' => Ev S (d + 1) 31 4 [some (.inr (some 3)), some (.inl x1)] (rv ++ []) σ' Q)) : Ev S (d + 1) 31 0 [some (.inr (some 3)), some (.inl x1)] [] σ Q := by
  refine e_load q_31 rfl rfl rfl ?_
  refine e_getR q_31 rfl rfl rfl ?_
  refine e_load q_31 rfl rfl rfl ?_
  exact e_virt q_31 rfl rfl (Nat.le_of_ble_eq_true rfl) rfl rfl (Nat.le_of_ble_eq_true rfl) rfl h
theorem g_31_4 {S : Nat × (Nat → Int32)} {d : Nat} {σ : Mem} {Q : MQ1} {o1 : Option MV} {y0 : Int32}  (h : ((y0 = 0 → Ec S d 14 [.inr (some 1)] σ (fun rv σ' => Ev S (d + 1) 31 10 [some (.inr (some 3)), o1] (rv ++ []) σ' Q)) ∧ (¬ (y0 = 0) → Q [.inl 0] σ))) : Ev S (d + 1) 31 4 [some (.inr (some 3)), o1] [.inl y0] σ Q := by
  refine e_if (P := y0 = 0) q_31 rfl m_c0 (fun c => ?_) (fun c => ?_)
  · replace h := h.1 c
    refine e_load q_31 rfl rfl rfl ?_
    refine e_getR q_31 rfl rfl rfl ?_
    exact e_virt q_31 rfl rfl (Nat.le_of_ble_eq_true rfl) rfl rfl (Nat.le_of_ble_eq_true rfl) rfl h
  · replace h := h.2 c
    refine e_push q_31 rfl ?_
    refine e_goto q_31 rfl ?_
    exact e_ireturn q_31 rfl rfl h
theorem g_31_10 {S : Nat × (Nat → Int32)} {d : Nat} {σ : Mem} {Q : MQ1} {o0 : Option MV} {o1 : Option MV} {y0 : Int32}  (h : Q [.inl y0] σ) : Ev S (d + 1) 31 10 [o0, o1] [.inl y0] σ Q := by
  exact e_ireturn q_31 rfl rfl h
theorem q_32 : m_code 32 = mc_32 := rfl
theorem g_32_0 {S : Nat × (Nat → Int32)} {d : Nat} {σ : Mem} {Q : MQ1} {x1 : Int32}  (h : ((x1 = (-1) → Q [.inl 0] σ) ∧ (¬ (x1 = (-1)) → Ec S d 18 [.inr (some 1), .inl x1] σ (fun rv σ' => Ev S (d + 1) 32 7 [some (.inr (some 3)), some (.inl x1)] (rv ++ []) σ' Q)))) : Ev S (d + 1) 32 0 [some (.inr (some 3)), some (.inl x1)] [] σ Q := by
  refine e_load q_32 rfl rfl rfl ?_
  refine e_push q_32 rfl ?_
  refine e_icmp (P := x1 = (-1)) q_32 rfl m_c0 (fun c => ?_) (fun c => ?_)
  · replace h := h.1 c
    refine e_push q_32 rfl ?_
    exact e_zreturn q_32 rfl rfl (by decide) h
  · replace h := h.2 c
    refine e_load q_32 rfl rfl rfl ?_
    refine e_getR q_32 rfl rfl rfl ?_
    refine e_load q_32 rfl rfl rfl ?_
    exact e_virt q_32 rfl rfl (Nat.le_of_ble_eq_true rfl) rfl rfl (Nat.le_of_ble_eq_true rfl) rfl h
theorem g_32_7 {S : Nat × (Nat → Int32)} {d : Nat} {σ : Mem} {Q : MQ1} {o0 : Option MV} {o1 : Option MV} {y0 : Int32}  (h : (((¬ y0 = 0) → Q [.inl 0] σ) ∧ (¬ (¬ y0 = 0) → Q [.inl 1] σ))) : Ev S (d + 1) 32 7 [o0, o1] [.inl y0] σ Q := by
  refine e_if (P := ¬ y0 = 0) q_32 rfl m_c1 (fun c => ?_) (fun c => ?_)
  · replace h := h.1 c
    refine e_push q_32 rfl ?_
    exact e_zreturn q_32 rfl rfl (by decide) h
  · replace h := h.2 c
    refine e_push q_32 rfl ?_
    refine e_goto q_32 rfl ?_
    exact e_zreturn q_32 rfl rfl (by decide) h
theorem q_33 : m_code 33 = mc_33 := rfl
theorem g_33_0 {S : Nat × (Nat → Int32)} {d : Nat} {σ : Mem} {Q : MQ1} {x1 : Int32} {x2 : Int32} {x3 : Int32}  (h : Ec S d 8 [.inr (some 1), .inl 3, .inl x1] σ (fun rv σ' => Ev S (d + 1) 33 5 [some (.inr (some 3)), some (.inl x1), some (.inl x2), some (.inl x3), none] (rv ++ []) σ' Q)) : Ev S (d + 1) 33 0 [some (.inr (some 3)), some (.inl x1), some (.inl x2), some (.inl x3), none] [] σ Q := by
  refine e_load q_33 rfl rfl rfl ?_
  refine e_getR q_33 rfl rfl rfl ?_
  refine e_push q_33 rfl ?_
  refine e_load q_33 rfl rfl rfl ?_
  exact e_virt q_33 rfl rfl (Nat.le_of_ble_eq_true rfl) rfl rfl (Nat.le_of_ble_eq_true rfl) rfl h
theorem g_33_5 {S : Nat × (Nat → Int32)} {d : Nat} {σ : Mem} {Q : MQ1} {o1 : Option MV} {x2 : Int32} {x3 : Int32} {o4 : Option MV} {y0 : Int32}  (h : (((¬ y0 = 0) → ((x3 ≤ x2 → Q [.inl 0] σ) ∧ (¬ (x3 ≤ x2) → (((x2 + y0) < x3 → Q [.inl 0] σ) ∧ (¬ ((x2 + y0) < x3) → Ec S d 18 [.inr (some 1), .inl x3] σ (fun rv σ' => Ev S (d + 1) 33 27 [some (.inr (some 3)), o1, some (.inl x2), some (.inl x3), some (.inl y0)] (rv ++ []) σ' Q)))))) ∧ (¬ (¬ y0 = 0) → (((¬ x3 = (-1)) → Q [.inl 0] σ) ∧ (¬ (¬ x3 = (-1)) → Q [.inl 1] σ))))) : Ev S (d + 1) 33 5 [some (.inr (some 3)), o1, some (.inl x2), some (.inl x3), o4] [.inl y0] σ Q := by
  refine e_store (ls' := [some (.inr (some 3)), o1, some (.inl x2), some (.inl x3), some (.inl y0)]) q_33 rfl (Nat.le_of_ble_eq_true rfl) rfl rfl ?_
  refine e_load q_33 rfl rfl rfl ?_
  refine e_if (P := ¬ y0 = 0) q_33 rfl m_c1 (fun c => ?_) (fun c => ?_)
  · replace h := h.1 c
    refine e_load q_33 rfl rfl rfl ?_
    refine e_load q_33 rfl rfl rfl ?_
    refine e_icmp (P := x3 ≤ x2) q_33 rfl m_c5 (fun c => ?_) (fun c => ?_)
    · replace h := h.1 c
      refine e_push q_33 rfl ?_
      exact e_zreturn q_33 rfl rfl (by decide) h
    · replace h := h.2 c
      refine e_load q_33 rfl rfl rfl ?_
      refine e_load q_33 rfl rfl rfl ?_
      refine e_load q_33 rfl rfl rfl ?_
      refine e_bin (r := x2 + y0) q_33 rfl rfl ?_
      refine e_icmp (P := (x2 + y0) < x3) q_33 rfl m_c4 (fun c => ?_) (fun c => ?_)
      · replace h := h.1 c
        refine e_push q_33 rfl ?_
        exact e_zreturn q_33 rfl rfl (by decide) h
      · replace h := h.2 c
        refine e_load q_33 rfl rfl rfl ?_
        refine e_getR q_33 rfl rfl rfl ?_
        refine e_load q_33 rfl rfl rfl ?_
        exact e_virt q_33 rfl rfl (Nat.le_of_ble_eq_true rfl) rfl rfl (Nat.le_of_ble_eq_true rfl) rfl h
  · replace h := h.2 c
    refine e_load q_33 rfl rfl rfl ?_
    refine e_push q_33 rfl ?_
    refine e_icmp (P := ¬ x3 = (-1)) q_33 rfl m_c1 (fun c => ?_) (fun c => ?_)
    · replace h := h.1 c
      refine e_push q_33 rfl ?_
      exact e_zreturn q_33 rfl rfl (by decide) h
    · replace h := h.2 c
      refine e_push q_33 rfl ?_
      refine e_goto q_33 rfl ?_
      exact e_zreturn q_33 rfl rfl (by decide) h
theorem g_33_27 {S : Nat × (Nat → Int32)} {d : Nat} {σ : Mem} {Q : MQ1} {o0 : Option MV} {o1 : Option MV} {o2 : Option MV} {o3 : Option MV} {o4 : Option MV} {y0 : Int32}  (h : (((¬ y0 = 0) → Q [.inl 0] σ) ∧ (¬ (¬ y0 = 0) → Q [.inl 1] σ))) : Ev S (d + 1) 33 27 [o0, o1, o2, o3, o4] [.inl y0] σ Q := by
  refine e_if (P := ¬ y0 = 0) q_33 rfl m_c1 (fun c => ?_) (fun c => ?_)
  · replace h := h.1 c
    refine e_push q_33 rfl ?_
    exact e_zreturn q_33 rfl rfl (by decide) h
  · replace h := h.2 c
    refine e_push q_33 rfl ?_
    refine e_goto q_33 rfl ?_
    exact e_zreturn q_33 rfl rfl (by decide) h
theorem q_34 : m_code 34 = mc_34 := rfl
theorem g_34_0 {S : Nat × (Nat → Int32)} {d : Nat} {σ : Mem} {Q : MQ1} {x1 : Int32} {x2 : Int32} {x3 : Int32}  (h : Ec S d 22 [.inr (some 1)] σ (fun rv σ' => Ev S (d + 1) 34 3 [some (.inr (some 3)), some (.inl x1), some (.inl x2), some (.inl x3), none] (rv ++ []) σ' Q)) : Ev S (d + 1) 34 0 [some (.inr (some 3)), some (.inl x1), some (.inl x2), some (.inl x3), none] [] σ Q := by
  refine e_load q_34 rfl rfl rfl ?_
  refine e_getR q_34 rfl rfl rfl ?_
  exact e_virt q_34 rfl rfl (Nat.le_of_ble_eq_true rfl) rfl rfl (Nat.le_of_ble_eq_true rfl) rfl h
theorem g_34_3 {S : Nat × (Nat → Int32)} {d : Nat} {σ : Mem} {Q : MQ1} {x1 : Int32} {x2 : Int32} {x3 : Int32} {o4 : Option MV} {y0 : Int32}  (h : Ec S d 11 [.inr (some 1), .inl x1, .inl 1] σ (fun rv σ' => Ev S (d + 1) 34 9 [some (.inr (some 3)), some (.inl x1), some (.inl x2), some (.inl x3), some (.inl y0)] (rv ++ []) σ' Q)) : Ev S (d + 1) 34 3 [some (.inr (some 3)), some (.inl x1), some (.inl x2), some (.inl x3), o4] [.inl y0] σ Q := by
  refine e_store (ls' := [some (.inr (some 3)), some (.inl x1), some (.inl x2), some (.inl x3), some (.inl y0)]) q_34 rfl (Nat.le_of_ble_eq_true rfl) rfl rfl ?_
  refine e_load q_34 rfl rfl rfl ?_
  refine e_getR q_34 rfl rfl rfl ?_
  refine e_load q_34 rfl rfl rfl ?_
  refine e_push q_34 rfl ?_
  exact e_virt q_34 rfl rfl (Nat.le_of_ble_eq_true rfl) rfl rfl (Nat.le_of_ble_eq_true rfl) rfl h
theorem g_34_9 {S : Nat × (Nat → Int32)} {d : Nat} {σ : Mem} {Q : MQ1} {o0 : Option MV} {o1 : Option MV} {x2 : Int32} {x3 : Int32} {x4 : Int32} {y0 : Int32}  (h : ((y0 = 0 → Q [.inl 1] σ) ∧ (¬ (y0 = 0) → ((x4 ≤ x2 → Q [.inl 0] σ) ∧ (¬ (x4 ≤ x2) → ((x4 ≤ x3 → Q [.inl 0] σ) ∧ (¬ (x4 ≤ x3) → Q [.inl 1] σ))))))) : Ev S (d + 1) 34 9 [o0, o1, some (.inl x2), some (.inl x3), some (.inl x4)] [.inl y0] σ Q := by
  refine e_if (P := y0 = 0) q_34 rfl m_c0 (fun c => ?_) (fun c => ?_)
  · replace h := h.1 c
    refine e_push q_34 rfl ?_
    refine e_goto q_34 rfl ?_
    exact e_zreturn q_34 rfl rfl (by decide) h
  · replace h := h.2 c
    refine e_load q_34 rfl rfl rfl ?_
    refine e_load q_34 rfl rfl rfl ?_
    refine e_icmp (P := x4 ≤ x2) q_34 rfl m_c3 (fun c => ?_) (fun c => ?_)
    · replace h := h.1 c
      refine e_push q_34 rfl ?_
      exact e_zreturn q_34 rfl rfl (by decide) h
    · replace h := h.2 c
      refine e_load q_34 rfl rfl rfl ?_
      refine e_load q_34 rfl rfl rfl ?_
      refine e_icmp (P := x4 ≤ x3) q_34 rfl m_c3 (fun c => ?_) (fun c => ?_)
      · replace h := h.1 c
        refine e_push q_34 rfl ?_
        exact e_zreturn q_34 rfl rfl (by decide) h
      · replace h := h.2 c
        refine e_push q_34 rfl ?_
        refine e_goto q_34 rfl ?_
        exact e_zreturn q_34 rfl rfl (by decide) h
theorem q_35 : m_code 35 = mc_35 := rfl
theorem g_35_0 {S : Nat × (Nat → Int32)} {d : Nat} {σ : Mem} {Q : MQ1} {x1 : Int32} {x2 : Int32}  (h : Ec S d 8 [.inr (some 1), .inl 5, .inl x2] σ (fun rv σ' => Ev S (d + 1) 35 5 [some (.inr (some 3)), some (.inl x1), some (.inl x2), none, none] (rv ++ []) σ' Q)) : Ev S (d + 1) 35 0 [some (.inr (some 3)), some (.inl x1), some (.inl x2), none, none] [] σ Q := by
  refine e_load q_35 rfl rfl rfl ?_
  refine e_getR q_35 rfl rfl rfl ?_
  refine e_push q_35 rfl ?_
  refine e_load q_35 rfl rfl rfl ?_
  exact e_virt q_35 rfl rfl (Nat.le_of_ble_eq_true rfl) rfl rfl (Nat.le_of_ble_eq_true rfl) rfl h
theorem g_35_5 {S : Nat × (Nat → Int32)} {d : Nat} {σ : Mem} {Q : MQ1} {x1 : Int32} {x2 : Int32} {o3 : Option MV} {o4 : Option MV} {y0 : Int32}  (h : Ec S d 8 [.inr (some 1), .inl 6, .inl x2] σ (fun rv σ' => Ev S (d + 1) 35 11 [some (.inr (some 3)), some (.inl x1), some (.inl x2), some (.inl y0), o4] (rv ++ []) σ' Q)) : Ev S (d + 1) 35 5 [some (.inr (some 3)), some (.inl x1), some (.inl x2), o3, o4] [.inl y0] σ Q := by
  refine e_store (ls' := [some (.inr (some 3)), some (.inl x1), some (.inl x2), some (.inl y0), o4]) q_35 rfl (Nat.le_of_ble_eq_true rfl) rfl rfl ?_
  refine e_load q_35 rfl rfl rfl ?_
  refine e_getR q_35 rfl rfl rfl ?_
  refine e_push q_35 rfl ?_
  refine e_load q_35 rfl rfl rfl ?_
  exact e_virt q_35 rfl rfl (Nat.le_of_ble_eq_true rfl) rfl rfl (Nat.le_of_ble_eq_true rfl) rfl h
theorem g_35_11 {S : Nat × (Nat → Int32)} {d : Nat} {σ : Mem} {Q : MQ1} {x1 : Int32} {x2 : Int32} {x3 : Int32} {o4 : Option MV} {y0 : Int32}  (h : ((x1 = 1 → ((x3 = (-1) → Q [.inl 0] σ) ∧ (¬ (x3 = (-1)) → Q [.inl 1] σ))) ∧ (x1 = 2 → Ec S d 32 [.inr (some 3), .inl x3] σ (fun rv σ' => Ev S (d + 1) 35 24 [some (.inr (some 3)), some (.inl x1), some (.inl x2), some (.inl x3), some (.inl y0)] (rv ++ []) σ' Q)) ∧ (x1 = 3 → Ec S d 36 [.inr (some 3), .inl x2, .inl x3] σ (fun rv σ' => Ev S (d + 1) 35 29 [some (.inr (some 3)), some (.inl x1), some (.inl x2), some (.inl x3), some (.inl y0)] (rv ++ []) σ' Q)) ∧ (x1 = 4 → Ec S d 33 [.inr (some 3), .inl x2, .inl x3, .inl y0] σ (fun rv σ' => Ev S (d + 1) 35 35 [some (.inr (some 3)), some (.inl x1), some (.inl x2), some (.inl x3), some (.inl y0)] (rv ++ []) σ' Q)) ∧ ((∀ j : Nat, j < 4 → ¬ x1 = 1 + nI j) → Ec S d 34 [.inr (some 3), .inl x2, .inl x3, .inl y0] σ (fun rv σ' => Ev S (d + 1) 35 41 [some (.inr (some 3)), some (.inl x1), some (.inl x2), some (.inl x3), some (.inl y0)] (rv ++ []) σ' Q)))) : Ev S (d + 1) 35 11 [some (.inr (some 3)), some (.inl x1), some (.inl x2), some (.inl x3), o4] [.inl y0] σ Q := by
  refine e_store (ls' := [some (.inr (some 3)), some (.inl x1), some (.inl x2), some (.inl x3), some (.inl y0)]) q_35 rfl (Nat.le_of_ble_eq_true rfl) rfl rfl ?_
  refine e_load q_35 rfl rfl rfl ?_
  refine e_switch q_35 rfl ?_
  rcases m_sw (x := x1) (t := 36) (lo := 1) (ts := [14, 21, 25, 30]) (by decide) (by decide) (by decide) with ⟨j, hj, hl, hx⟩ | ⟨hx, hn⟩
  · match j, hj, hl, hx with
    | 0, hj, hl, hx =>
      rw [show m_swt 36 1 [14, 21, 25, 30] (x1) = 14 from hx]
      replace h := h.1 (hj.trans (by decide +kernel))
      refine e_load q_35 rfl rfl rfl ?_
      refine e_push q_35 rfl ?_
      refine e_icmp (P := x3 = (-1)) q_35 rfl m_c0 (fun c => ?_) (fun c => ?_)
      · replace h := h.1 c
        refine e_push q_35 rfl ?_
        exact e_zreturn q_35 rfl rfl (by decide) h
      · replace h := h.2 c
        refine e_push q_35 rfl ?_
        refine e_goto q_35 rfl ?_
        exact e_zreturn q_35 rfl rfl (by decide) h
    | 1, hj, hl, hx =>
      rw [show m_swt 36 1 [14, 21, 25, 30] (x1) = 21 from hx]
      replace h := h.2.1 (hj.trans (by decide +kernel))
      refine e_load q_35 rfl rfl rfl ?_
      refine e_load q_35 rfl rfl rfl ?_
      exact e_virt q_35 rfl rfl (Nat.le_of_ble_eq_true rfl) rfl rfl (Nat.le_of_ble_eq_true rfl) rfl h
    | 2, hj, hl, hx =>
      rw [show m_swt 36 1 [14, 21, 25, 30] (x1) = 25 from hx]
      replace h := h.2.2.1 (hj.trans (by decide +kernel))
      refine e_load q_35 rfl rfl rfl ?_
      refine e_load q_35 rfl rfl rfl ?_
      refine e_load q_35 rfl rfl rfl ?_
      exact e_virt q_35 rfl rfl (Nat.le_of_ble_eq_true rfl) rfl rfl (Nat.le_of_ble_eq_true rfl) rfl h
    | 3, hj, hl, hx =>
      rw [show m_swt 36 1 [14, 21, 25, 30] (x1) = 30 from hx]
      replace h := h.2.2.2.1 (hj.trans (by decide +kernel))
      refine e_load q_35 rfl rfl rfl ?_
      refine e_load q_35 rfl rfl rfl ?_
      refine e_load q_35 rfl rfl rfl ?_
      refine e_load q_35 rfl rfl rfl ?_
      exact e_virt q_35 rfl rfl (Nat.le_of_ble_eq_true rfl) rfl rfl (Nat.le_of_ble_eq_true rfl) rfl h
    | j + 4, hj, hl, hx => exact absurd hl (show ¬ j + 4 < 4 by omega)
  · rw [hx]
    replace h := h.2.2.2.2 hn
    refine e_load q_35 rfl rfl rfl ?_
    refine e_load q_35 rfl rfl rfl ?_
    refine e_load q_35 rfl rfl rfl ?_
    refine e_load q_35 rfl rfl rfl ?_
    exact e_virt q_35 rfl rfl (Nat.le_of_ble_eq_true rfl) rfl rfl (Nat.le_of_ble_eq_true rfl) rfl h
theorem g_35_24 {S : Nat × (Nat → Int32)} {d : Nat} {σ : Mem} {Q : MQ1} {o0 : Option MV} {o1 : Option MV} {o2 : Option MV} {o3 : Option MV} {o4 : Option MV} {y0 : Int32}  (h : ((y0 = 0 ∨ y0 = 1) ∧ Q [.inl y0] σ)) : Ev S (d + 1) 35 24 [o0, o1, o2, o3, o4] [.inl y0] σ Q := by
  exact e_zreturn q_35 rfl rfl h.1 h.2
theorem g_35_29 {S : Nat × (Nat → Int32)} {d : Nat} {σ : Mem} {Q : MQ1} {o0 : Option MV} {o1 : Option MV} {o2 : Option MV} {o3 : Option MV} {o4 : Option MV} {y0 : Int32}  (h : ((y0 = 0 ∨ y0 = 1) ∧ Q [.inl y0] σ)) : Ev S (d + 1) 35 29 [o0, o1, o2, o3, o4] [.inl y0] σ Q := by
  exact e_zreturn q_35 rfl rfl h.1 h.2
theorem g_35_35 {S : Nat × (Nat → Int32)} {d : Nat} {σ : Mem} {Q : MQ1} {o0 : Option MV} {o1 : Option MV} {o2 : Option MV} {o3 : Option MV} {o4 : Option MV} {y0 : Int32}  (h : ((y0 = 0 ∨ y0 = 1) ∧ Q [.inl y0] σ)) : Ev S (d + 1) 35 35 [o0, o1, o2, o3, o4] [.inl y0] σ Q := by
  exact e_zreturn q_35 rfl rfl h.1 h.2
theorem g_35_41 {S : Nat × (Nat → Int32)} {d : Nat} {σ : Mem} {Q : MQ1} {o1 : Option MV} {x2 : Int32} {x3 : Int32} {o4 : Option MV} {y0 : Int32}  (h : ((y0 = 0 → Q [.inl 0] σ) ∧ (¬ (y0 = 0) → Ec S d 37 [.inr (some 3), .inl x2, .inl x3] σ (fun rv σ' => Ev S (d + 1) 35 46 [some (.inr (some 3)), o1, some (.inl x2), some (.inl x3), o4] (rv ++ []) σ' Q)))) : Ev S (d + 1) 35 41 [some (.inr (some 3)), o1, some (.inl x2), some (.inl x3), o4] [.inl y0] σ Q := by
  refine e_if (P := y0 = 0) q_35 rfl m_c0 (fun c => ?_) (fun c => ?_)
  · replace h := h.1 c
    refine e_push q_35 rfl ?_
    exact e_zreturn q_35 rfl rfl (by decide) h
  · replace h := h.2 c
    refine e_load q_35 rfl rfl rfl ?_
    refine e_load q_35 rfl rfl rfl ?_
    refine e_load q_35 rfl rfl rfl ?_
    exact e_virt q_35 rfl rfl (Nat.le_of_ble_eq_true rfl) rfl rfl (Nat.le_of_ble_eq_true rfl) rfl h
theorem g_35_46 {S : Nat × (Nat → Int32)} {d : Nat} {σ : Mem} {Q : MQ1} {o0 : Option MV} {o1 : Option MV} {o2 : Option MV} {o3 : Option MV} {o4 : Option MV} {y0 : Int32}  (h : ((y0 = 0 → Q [.inl 0] σ) ∧ (¬ (y0 = 0) → Q [.inl 1] σ))) : Ev S (d + 1) 35 46 [o0, o1, o2, o3, o4] [.inl y0] σ Q := by
  refine e_if (P := y0 = 0) q_35 rfl m_c0 (fun c => ?_) (fun c => ?_)
  · replace h := h.1 c
    refine e_push q_35 rfl ?_
    exact e_zreturn q_35 rfl rfl (by decide) h
  · replace h := h.2 c
    refine e_push q_35 rfl ?_
    refine e_goto q_35 rfl ?_
    exact e_zreturn q_35 rfl rfl (by decide) h
theorem q_36 : m_code 36 = mc_36 := rfl
theorem g_36_0 {S : Nat × (Nat → Int32)} {d : Nat} {σ : Mem} {Q : MQ1} {x1 : Int32} {x2 : Int32}  (h : Ec S d 8 [.inr (some 1), .inl 2, .inl x1] σ (fun rv σ' => Ev S (d + 1) 36 5 [some (.inr (some 3)), some (.inl x1), some (.inl x2), none, none] (rv ++ []) σ' Q)) : Ev S (d + 1) 36 0 [some (.inr (some 3)), some (.inl x1), some (.inl x2), none, none] [] σ Q := by
  refine e_load q_36 rfl rfl rfl ?_
  refine e_getR q_36 rfl rfl rfl ?_
  refine e_push q_36 rfl ?_
  refine e_load q_36 rfl rfl rfl ?_
  exact e_virt q_36 rfl rfl (Nat.le_of_ble_eq_true rfl) rfl rfl (Nat.le_of_ble_eq_true rfl) rfl h
theorem g_36_5 {S : Nat × (Nat → Int32)} {d : Nat} {σ : Mem} {Q : MQ1} {o1 : Option MV} {x2 : Int32} {o3 : Option MV} {o4 : Option MV} {y0 : Int32}  (h : Ev S (d + 1) 36 8 [some (.inr (some 3)), o1, some (.inl x2), some (.inl y0), some (.inl 0)] [] σ Q) : Ev S (d + 1) 36 5 [some (.inr (some 3)), o1, some (.inl x2), o3, o4] [.inl y0] σ Q := by
  refine e_store (ls' := [some (.inr (some 3)), o1, some (.inl x2), some (.inl y0), o4]) q_36 rfl (Nat.le_of_ble_eq_true rfl) rfl rfl ?_
  refine e_push q_36 rfl ?_
  refine e_store (ls' := [some (.inr (some 3)), o1, some (.inl x2), some (.inl y0), some (.inl 0)]) q_36 rfl (Nat.le_of_ble_eq_true rfl) rfl rfl ?_
  exact h
theorem g_36_8 {S : Nat × (Nat → Int32)} {d : Nat} {σ : Mem} {Q : MQ1} {o1 : Option MV} {x2 : Int32} {x3 : Int32} {x4 : Int32}  (h : Ec S d 7 [.inr (some 1)] σ (fun rv σ' => Ev S (d + 1) 36 12 [some (.inr (some 3)), o1, some (.inl x2), some (.inl x3), some (.inl x4)] (rv ++ [.inl x4]) σ' Q)) : Ev S (d + 1) 36 8 [some (.inr (some 3)), o1, some (.inl x2), some (.inl x3), some (.inl x4)] [] σ Q := by
  refine e_load q_36 rfl rfl rfl ?_
  refine e_load q_36 rfl rfl rfl ?_
  refine e_getR q_36 rfl rfl rfl ?_
  exact e_virt q_36 rfl rfl (Nat.le_of_ble_eq_true rfl) rfl rfl (Nat.le_of_ble_eq_true rfl) rfl h
theorem g_36_12 {S : Nat × (Nat → Int32)} {d : Nat} {σ : Mem} {Q : MQ1} {o1 : Option MV} {x2 : Int32} {x3 : Int32} {x4 : Int32} {y0 : Int32} {y1 : Int32}  (h : ((y1 ≤ y0 → Q [.inl 1] σ) ∧ (¬ (y1 ≤ y0) → Ec S d 110 [.inl x3, .inl x4] σ (fun rv σ' => Ev S (d + 1) 36 16 [some (.inr (some 3)), o1, some (.inl x2), some (.inl x3), some (.inl x4)] (rv ++ []) σ' Q)))) : Ev S (d + 1) 36 12 [some (.inr (some 3)), o1, some (.inl x2), some (.inl x3), some (.inl x4)] [.inl y1, .inl y0] σ Q := by
  refine e_icmp (P := y1 ≤ y0) q_36 rfl m_c3 (fun c => ?_) (fun c => ?_)
  · replace h := h.1 c
    refine e_push q_36 rfl ?_
    exact e_zreturn q_36 rfl rfl (by decide) h
  · replace h := h.2 c
    refine e_load q_36 rfl rfl rfl ?_
    refine e_load q_36 rfl rfl rfl ?_
    exact e_stat q_36 rfl (Nat.le_of_ble_eq_true rfl) rfl rfl (Nat.le_of_ble_eq_true rfl) h
theorem g_36_16 {S : Nat × (Nat → Int32)} {d : Nat} {σ : Mem} {Q : MQ1} {o1 : Option MV} {x2 : Int32} {x3 : Int32} {x4 : Int32} {y0 : Int32}  (h : ((y0 = 0 → Ev S (d + 1) 36 8 [some (.inr (some 3)), o1, some (.inl x2), some (.inl x3), some (.inl (x4 + 1))] [] σ Q) ∧ (¬ (y0 = 0) → Ec S d 12 [.inr (some 1), .inl x4] σ (fun rv σ' => Ev S (d + 1) 36 21 [some (.inr (some 3)), o1, some (.inl x2), some (.inl x3), some (.inl x4)] (rv ++ []) σ' Q)))) : Ev S (d + 1) 36 16 [some (.inr (some 3)), o1, some (.inl x2), some (.inl x3), some (.inl x4)] [.inl y0] σ Q := by
  refine e_if (P := y0 = 0) q_36 rfl m_c0 (fun c => ?_) (fun c => ?_)
  · replace h := h.1 c
    refine e_iinc (ls' := [some (.inr (some 3)), o1, some (.inl x2), some (.inl x3), some (.inl (x4 + 1))]) q_36 rfl rfl rfl ?_
    refine e_goto q_36 rfl ?_
    exact h
  · replace h := h.2 c
    refine e_load q_36 rfl rfl rfl ?_
    refine e_getR q_36 rfl rfl rfl ?_
    refine e_load q_36 rfl rfl rfl ?_
    exact e_virt q_36 rfl rfl (Nat.le_of_ble_eq_true rfl) rfl rfl (Nat.le_of_ble_eq_true rfl) rfl h
theorem g_36_21 {S : Nat × (Nat → Int32)} {d : Nat} {σ : Mem} {Q : MQ1} {o1 : Option MV} {x2 : Int32} {x3 : Int32} {x4 : Int32} {y0 : Int32}  (h : (((¬ y0 = 0) → Ev S (d + 1) 36 8 [some (.inr (some 3)), o1, some (.inl x2), some (.inl x3), some (.inl (x4 + 1))] [] σ Q) ∧ (¬ (¬ y0 = 0) → Ec S d 8 [.inr (some 1), .inl 5, .inl x4] σ (fun rv σ' => Ev S (d + 1) 36 27 [some (.inr (some 3)), o1, some (.inl x2), some (.inl x3), some (.inl x4)] (rv ++ []) σ' Q)))) : Ev S (d + 1) 36 21 [some (.inr (some 3)), o1, some (.inl x2), some (.inl x3), some (.inl x4)] [.inl y0] σ Q := by
  refine e_if (P := ¬ y0 = 0) q_36 rfl m_c1 (fun c => ?_) (fun c => ?_)
  · replace h := h.1 c
    refine e_iinc (ls' := [some (.inr (some 3)), o1, some (.inl x2), some (.inl x3), some (.inl (x4 + 1))]) q_36 rfl rfl rfl ?_
    refine e_goto q_36 rfl ?_
    exact h
  · replace h := h.2 c
    refine e_load q_36 rfl rfl rfl ?_
    refine e_getR q_36 rfl rfl rfl ?_
    refine e_push q_36 rfl ?_
    refine e_load q_36 rfl rfl rfl ?_
    exact e_virt q_36 rfl rfl (Nat.le_of_ble_eq_true rfl) rfl rfl (Nat.le_of_ble_eq_true rfl) rfl h
theorem g_36_27 {S : Nat × (Nat → Int32)} {d : Nat} {σ : Mem} {Q : MQ1} {o1 : Option MV} {x2 : Int32} {x3 : Int32} {x4 : Int32} {y0 : Int32}  (h : ((y0 < x2 → Ev S (d + 1) 36 8 [some (.inr (some 3)), o1, some (.inl x2), some (.inl x3), some (.inl (x4 + 1))] [] σ Q) ∧ (¬ (y0 < x2) → Q [.inl 0] σ))) : Ev S (d + 1) 36 27 [some (.inr (some 3)), o1, some (.inl x2), some (.inl x3), some (.inl x4)] [.inl y0] σ Q := by
  refine e_load q_36 rfl rfl rfl ?_
  refine e_icmp (P := y0 < x2) q_36 rfl m_c2 (fun c => ?_) (fun c => ?_)
  · replace h := h.1 c
    refine e_iinc (ls' := [some (.inr (some 3)), o1, some (.inl x2), some (.inl x3), some (.inl (x4 + 1))]) q_36 rfl rfl rfl ?_
    refine e_goto q_36 rfl ?_
    exact h
  · replace h := h.2 c
    refine e_push q_36 rfl ?_
    exact e_zreturn q_36 rfl rfl (by decide) h
theorem q_37 : m_code 37 = mc_37 := rfl
theorem g_37_0 {S : Nat × (Nat → Int32)} {d : Nat} {σ : Mem} {Q : MQ1} {x1 : Int32} {x2 : Int32}  (h : Ec S d 8 [.inr (some 1), .inl 8, .inl x1] σ (fun rv σ' => Ev S (d + 1) 37 5 [some (.inr (some 3)), some (.inl x1), some (.inl x2), none] (rv ++ []) σ' Q)) : Ev S (d + 1) 37 0 [some (.inr (some 3)), some (.inl x1), some (.inl x2), none] [] σ Q := by
  refine e_load q_37 rfl rfl rfl ?_
  refine e_getR q_37 rfl rfl rfl ?_
  refine e_push q_37 rfl ?_
  refine e_load q_37 rfl rfl rfl ?_
  exact e_virt q_37 rfl rfl (Nat.le_of_ble_eq_true rfl) rfl rfl (Nat.le_of_ble_eq_true rfl) rfl h
theorem g_37_5 {S : Nat × (Nat → Int32)} {d : Nat} {σ : Mem} {Q : MQ1} {o1 : Option MV} {x2 : Int32} {o3 : Option MV} {y0 : Int32}  (h : ((y0 = (-1) → Q [.inl 1] σ) ∧ (¬ (y0 = (-1)) → Ec S d 12 [.inr (some 1), .inl y0] σ (fun rv σ' => Ev S (d + 1) 37 13 [some (.inr (some 3)), o1, some (.inl x2), some (.inl y0)] (rv ++ []) σ' Q)))) : Ev S (d + 1) 37 5 [some (.inr (some 3)), o1, some (.inl x2), o3] [.inl y0] σ Q := by
  refine e_store (ls' := [some (.inr (some 3)), o1, some (.inl x2), some (.inl y0)]) q_37 rfl (Nat.le_of_ble_eq_true rfl) rfl rfl ?_
  refine e_load q_37 rfl rfl rfl ?_
  refine e_push q_37 rfl ?_
  refine e_icmp (P := y0 = (-1)) q_37 rfl m_c0 (fun c => ?_) (fun c => ?_)
  · replace h := h.1 c
    refine e_push q_37 rfl ?_
    refine e_goto q_37 rfl ?_
    exact e_zreturn q_37 rfl rfl (by decide) h
  · replace h := h.2 c
    refine e_load q_37 rfl rfl rfl ?_
    refine e_getR q_37 rfl rfl rfl ?_
    refine e_load q_37 rfl rfl rfl ?_
    exact e_virt q_37 rfl rfl (Nat.le_of_ble_eq_true rfl) rfl rfl (Nat.le_of_ble_eq_true rfl) rfl h
theorem g_37_13 {S : Nat × (Nat → Int32)} {d : Nat} {σ : Mem} {Q : MQ1} {o1 : Option MV} {x2 : Int32} {x3 : Int32} {y0 : Int32}  (h : (((¬ y0 = 0) → Q [.inl 1] σ) ∧ (¬ (¬ y0 = 0) → Ec S d 8 [.inr (some 1), .inl 5, .inl x3] σ (fun rv σ' => Ev S (d + 1) 37 19 [some (.inr (some 3)), o1, some (.inl x2), some (.inl x3)] (rv ++ []) σ' Q)))) : Ev S (d + 1) 37 13 [some (.inr (some 3)), o1, some (.inl x2), some (.inl x3)] [.inl y0] σ Q := by
  refine e_if (P := ¬ y0 = 0) q_37 rfl m_c1 (fun c => ?_) (fun c => ?_)
  · replace h := h.1 c
    refine e_push q_37 rfl ?_
    refine e_goto q_37 rfl ?_
    exact e_zreturn q_37 rfl rfl (by decide) h
  · replace h := h.2 c
    refine e_load q_37 rfl rfl rfl ?_
    refine e_getR q_37 rfl rfl rfl ?_
    refine e_push q_37 rfl ?_
    refine e_load q_37 rfl rfl rfl ?_
    exact e_virt q_37 rfl rfl (Nat.le_of_ble_eq_true rfl) rfl rfl (Nat.le_of_ble_eq_true rfl) rfl h
theorem g_37_19 {S : Nat × (Nat → Int32)} {d : Nat} {σ : Mem} {Q : MQ1} {o0 : Option MV} {o1 : Option MV} {x2 : Int32} {o3 : Option MV} {y0 : Int32}  (h : (((¬ y0 = x2) → Q [.inl 0] σ) ∧ (¬ (¬ y0 = x2) → Q [.inl 1] σ))) : Ev S (d + 1) 37 19 [o0, o1, some (.inl x2), o3] [.inl y0] σ Q := by
  refine e_load q_37 rfl rfl rfl ?_
  refine e_icmp (P := ¬ y0 = x2) q_37 rfl m_c1 (fun c => ?_) (fun c => ?_)
  · replace h := h.1 c
    refine e_push q_37 rfl ?_
    exact e_zreturn q_37 rfl rfl (by decide) h
  · replace h := h.2 c
    refine e_push q_37 rfl ?_
    refine e_goto q_37 rfl ?_
    exact e_zreturn q_37 rfl rfl (by decide) h
