theorem g_39_0 {S : Nat × (Nat → Int32)} {d : Nat} {σ : Mem} {Q : MQ1} {p0 p0f p0s p0m : Nat} {x1 : Int32} (hp0 : isPl p0 p0f p0s p0m) (h : (∃ j1 : Nat, (1 * 8) + ((up σ p0 4 x1) p0 4) = nI j1 ∧ j1 < 81 ∧ (∃ j2 : Nat, (2 * 8) + ((up (up σ p0 4 x1) p0 5 ((up σ p0 4 x1) 2 j1)) p0 4) = nI j2 ∧ j2 < 81 ∧ (∃ j3 : Nat, (8 * 8) + ((up (up (up σ p0 4 x1) p0 5 ((up σ p0 4 x1) 2 j1)) p0 6 ((up (up σ p0 4 x1) p0 5 ((up σ p0 4 x1) 2 j1)) 2 j2)) p0 4) = nI j3 ∧ j3 < 81 ∧ Ev S (d + 3) 39 29 [some (.inr (some p0)), some (.inl x1), some (.inr (some 1)), some (.inr (some 3)), some (.inl 0), none] [] (up (up (up (up (up σ p0 4 x1) p0 5 ((up σ p0 4 x1) 2 j1)) p0 6 ((up (up σ p0 4 x1) p0 5 ((up σ p0 4 x1) 2 j1)) 2 j2)) p0 7 ((up (up (up σ p0 4 x1) p0 5 ((up σ p0 4 x1) 2 j1)) p0 6 ((up (up σ p0 4 x1) p0 5 ((up σ p0 4 x1) 2 j1)) 2 j2)) 2 j3)) p0 3 0) Q)))) : Ev S (d + 3) 39 0 [some (.inr (some p0)), some (.inl x1), some (.inr (some 1)), some (.inr (some 3)), none, none] [] σ Q := by
  refine e_load q_39 rfl rfl rfl ?_
  refine e_load q_39 rfl rfl rfl ?_
  refine e_putI q_39 rfl hp0.1 rfl ?_
  refine e_load q_39 rfl rfl rfl ?_
  refine e_load q_39 rfl rfl rfl ?_
  refine e_push q_39 rfl ?_
  refine e_load q_39 rfl rfl rfl ?_
  refine e_getI q_39 rfl hp0.1 rfl ?_
  refine e_virt q_39 rfl rfl (Nat.le_of_ble_eq_true rfl) rfl rfl (Nat.le_of_ble_eq_true rfl) rfl ?_
  show Ev S (d + 2) 8 0 [some (.inr (some 1)), some (.inl 1), some (.inl ((up σ p0 4 x1) p0 4))] [] (up σ p0 4 x1) _
  refine e_load q_8 rfl rfl rfl ?_
  refine e_getR q_8 rfl rfl rfl ?_
  refine e_load q_8 rfl rfl rfl ?_
  refine e_push q_8 rfl ?_
  refine e_bin (r := 1 * 8) q_8 rfl rfl ?_
  refine e_load q_8 rfl rfl rfl ?_
  refine e_bin (r := (1 * 8) + ((up σ p0 4 x1) p0 4)) q_8 rfl rfl ?_
  obtain ⟨j1, hjj1, hlj1, h⟩ := h
  refine e_iald q_8 rfl rfl (by decide) hjj1 hlj1 ?_
  refine e_ireturn q_8 rfl rfl ?_
  show Ev S (d + 3) 39 9 [some (.inr (some p0)), some (.inl x1), some (.inr (some 1)), some (.inr (some 3)), none, none] [.inl ((up σ p0 4 x1) 2 j1), .inr (some p0)] (up σ p0 4 x1) _
  refine e_putI q_39 rfl hp0.1 rfl ?_
  refine e_load q_39 rfl rfl rfl ?_
  refine e_load q_39 rfl rfl rfl ?_
  refine e_push q_39 rfl ?_
  refine e_load q_39 rfl rfl rfl ?_
  refine e_getI q_39 rfl hp0.1 rfl ?_
  refine e_virt q_39 rfl rfl (Nat.le_of_ble_eq_true rfl) rfl rfl (Nat.le_of_ble_eq_true rfl) rfl ?_
  show Ev S (d + 2) 8 0 [some (.inr (some 1)), some (.inl 2), some (.inl ((up (up σ p0 4 x1) p0 5 ((up σ p0 4 x1) 2 j1)) p0 4))] [] (up (up σ p0 4 x1) p0 5 ((up σ p0 4 x1) 2 j1)) _
  refine e_load q_8 rfl rfl rfl ?_
  refine e_getR q_8 rfl rfl rfl ?_
  refine e_load q_8 rfl rfl rfl ?_
  refine e_push q_8 rfl ?_
  refine e_bin (r := 2 * 8) q_8 rfl rfl ?_
  refine e_load q_8 rfl rfl rfl ?_
  refine e_bin (r := (2 * 8) + ((up (up σ p0 4 x1) p0 5 ((up σ p0 4 x1) 2 j1)) p0 4)) q_8 rfl rfl ?_
  obtain ⟨j2, hjj2, hlj2, h⟩ := h
  refine e_iald q_8 rfl rfl (by decide) hjj2 hlj2 ?_
  refine e_ireturn q_8 rfl rfl ?_
  show Ev S (d + 3) 39 16 [some (.inr (some p0)), some (.inl x1), some (.inr (some 1)), some (.inr (some 3)), none, none] [.inl ((up (up σ p0 4 x1) p0 5 ((up σ p0 4 x1) 2 j1)) 2 j2), .inr (some p0)] (up (up σ p0 4 x1) p0 5 ((up σ p0 4 x1) 2 j1)) _
  refine e_putI q_39 rfl hp0.1 rfl ?_
  refine e_load q_39 rfl rfl rfl ?_
  refine e_load q_39 rfl rfl rfl ?_
  refine e_push q_39 rfl ?_
  refine e_load q_39 rfl rfl rfl ?_
  refine e_getI q_39 rfl hp0.1 rfl ?_
  refine e_virt q_39 rfl rfl (Nat.le_of_ble_eq_true rfl) rfl rfl (Nat.le_of_ble_eq_true rfl) rfl ?_
  show Ev S (d + 2) 8 0 [some (.inr (some 1)), some (.inl 8), some (.inl ((up (up (up σ p0 4 x1) p0 5 ((up σ p0 4 x1) 2 j1)) p0 6 ((up (up σ p0 4 x1) p0 5 ((up σ p0 4 x1) 2 j1)) 2 j2)) p0 4))] [] (up (up (up σ p0 4 x1) p0 5 ((up σ p0 4 x1) 2 j1)) p0 6 ((up (up σ p0 4 x1) p0 5 ((up σ p0 4 x1) 2 j1)) 2 j2)) _
  refine e_load q_8 rfl rfl rfl ?_
  refine e_getR q_8 rfl rfl rfl ?_
  refine e_load q_8 rfl rfl rfl ?_
  refine e_push q_8 rfl ?_
  refine e_bin (r := 8 * 8) q_8 rfl rfl ?_
  refine e_load q_8 rfl rfl rfl ?_
  refine e_bin (r := (8 * 8) + ((up (up (up σ p0 4 x1) p0 5 ((up σ p0 4 x1) 2 j1)) p0 6 ((up (up σ p0 4 x1) p0 5 ((up σ p0 4 x1) 2 j1)) 2 j2)) p0 4)) q_8 rfl rfl ?_
  obtain ⟨j3, hjj3, hlj3, h⟩ := h
  refine e_iald q_8 rfl rfl (by decide) hjj3 hlj3 ?_
  refine e_ireturn q_8 rfl rfl ?_
  show Ev S (d + 3) 39 23 [some (.inr (some p0)), some (.inl x1), some (.inr (some 1)), some (.inr (some 3)), none, none] [.inl ((up (up (up σ p0 4 x1) p0 5 ((up σ p0 4 x1) 2 j1)) p0 6 ((up (up σ p0 4 x1) p0 5 ((up σ p0 4 x1) 2 j1)) 2 j2)) 2 j3), .inr (some p0)] (up (up (up σ p0 4 x1) p0 5 ((up σ p0 4 x1) 2 j1)) p0 6 ((up (up σ p0 4 x1) p0 5 ((up σ p0 4 x1) 2 j1)) 2 j2)) _
  refine e_putI q_39 rfl hp0.1 rfl ?_
  refine e_load q_39 rfl rfl rfl ?_
  refine e_push q_39 rfl ?_
  refine e_putI q_39 rfl hp0.1 rfl ?_
  refine e_push q_39 rfl ?_
  refine e_store (ls' := [some (.inr (some p0)), some (.inl x1), some (.inr (some 1)), some (.inr (some 3)), some (.inl 0), none]) q_39 rfl (Nat.le_of_ble_eq_true rfl) rfl rfl ?_
  exact h
theorem g_39_29 {S : Nat × (Nat → Int32)} {d : Nat} {σ : Mem} {Q : MQ1} {p0 p0f p0s p0m : Nat} {o1 : Option MV} {x4 : Int32} {o5 : Option MV} (hp0 : isPl p0 p0f p0s p0m) (h : ((6 ≤ x4 → Q [] σ) ∧ (¬ (6 ≤ x4) → Ev S (d + 3) 39 34 [some (.inr (some p0)), o1, some (.inr (some 1)), some (.inr (some 3)), some (.inl x4), some (.inl (-1))] [] σ Q))) : Ev S (d + 3) 39 29 [some (.inr (some p0)), o1, some (.inr (some 1)), some (.inr (some 3)), some (.inl x4), o5] [] σ Q := by
  refine e_load q_39 rfl rfl rfl ?_
  refine e_push q_39 rfl ?_
  refine e_icmp (P := 6 ≤ x4) q_39 rfl m_c3 (fun c => ?_) (fun c => ?_)
  · replace h := h.1 c
    exact e_return q_39 rfl rfl h
  · replace h := h.2 c
    refine e_push q_39 rfl ?_
    refine e_store (ls' := [some (.inr (some p0)), o1, some (.inr (some 1)), some (.inr (some 3)), some (.inl x4), some (.inl (-1))]) q_39 rfl (Nat.le_of_ble_eq_true rfl) rfl rfl ?_
    exact h
theorem g_39_34 {S : Nat × (Nat → Int32)} {d : Nat} {σ : Mem} {Q : MQ1} {p0 p0f p0s p0m : Nat} {o1 : Option MV} {x4 : Int32} {x5 : Int32} (hp0 : isPl p0 p0f p0s p0m) (h : ((6 ≤ x5 → Ev S (d + 3) 39 29 [some (.inr (some p0)), o1, some (.inr (some 1)), some (.inr (some 3)), some (.inl (x4 + 1)), some (.inl x5)] [] σ Q) ∧ (¬ (6 ≤ x5) → Ec S (d + 2) 32 [.inr (some 3), .inl x4] σ (fun rv σ' => Ev S (d + 3) 39 40 [some (.inr (some p0)), o1, some (.inr (some 1)), some (.inr (some 3)), some (.inl x4), some (.inl x5)] (rv ++ []) σ' Q)))) : Ev S (d + 3) 39 34 [some (.inr (some p0)), o1, some (.inr (some 1)), some (.inr (some 3)), some (.inl x4), some (.inl x5)] [] σ Q := by
  refine e_load q_39 rfl rfl rfl ?_
  refine e_push q_39 rfl ?_
  refine e_icmp (P := 6 ≤ x5) q_39 rfl m_c3 (fun c => ?_) (fun c => ?_)
  · replace h := h.1 c
    refine e_iinc (ls' := [some (.inr (some p0)), o1, some (.inr (some 1)), some (.inr (some 3)), some (.inl (x4 + 1)), some (.inl x5)]) q_39 rfl rfl rfl ?_
    refine e_goto q_39 rfl ?_
    exact h
  · replace h := h.2 c
    refine e_load q_39 rfl rfl rfl ?_
    refine e_load q_39 rfl rfl rfl ?_
    exact e_virt q_39 rfl rfl (Nat.le_of_ble_eq_true rfl) rfl rfl (Nat.le_of_ble_eq_true rfl) rfl h
theorem g_39_40 {S : Nat × (Nat → Int32)} {d : Nat} {σ : Mem} {Q : MQ1} {p0 p0f p0s p0m : Nat} {o1 : Option MV} {x4 : Int32} {x5 : Int32} {y0 : Int32} (hp0 : isPl p0 p0f p0s p0m) (h : ((y0 = 0 → Ev S (d + 3) 39 34 [some (.inr (some p0)), o1, some (.inr (some 1)), some (.inr (some 3)), some (.inl x4), some (.inl (x5 + 1))] [] σ Q) ∧ (¬ (y0 = 0) → Ec S (d + 2) 33 [.inr (some 3), .inl (σ p0 4), .inl x4, .inl x5] σ (fun rv σ' => Ev S (d + 3) 39 47 [some (.inr (some p0)), o1, some (.inr (some 1)), some (.inr (some 3)), some (.inl x4), some (.inl x5)] (rv ++ []) σ' Q)))) : Ev S (d + 3) 39 40 [some (.inr (some p0)), o1, some (.inr (some 1)), some (.inr (some 3)), some (.inl x4), some (.inl x5)] [.inl y0] σ Q := by
  refine e_if (P := y0 = 0) q_39 rfl m_c0 (fun c => ?_) (fun c => ?_)
  · replace h := h.1 c
    refine e_iinc (ls' := [some (.inr (some p0)), o1, some (.inr (some 1)), some (.inr (some 3)), some (.inl x4), some (.inl (x5 + 1))]) q_39 rfl rfl rfl ?_
    refine e_goto q_39 rfl ?_
    exact h
  · replace h := h.2 c
    refine e_load q_39 rfl rfl rfl ?_
    refine e_load q_39 rfl rfl rfl ?_
    refine e_getI q_39 rfl hp0.1 rfl ?_
    refine e_load q_39 rfl rfl rfl ?_
    refine e_load q_39 rfl rfl rfl ?_
    exact e_virt q_39 rfl rfl (Nat.le_of_ble_eq_true rfl) rfl rfl (Nat.le_of_ble_eq_true rfl) rfl h
theorem g_39_47 {S : Nat × (Nat → Int32)} {d : Nat} {σ : Mem} {Q : MQ1} {p0 p0f p0s p0m : Nat} {o1 : Option MV} {x4 : Int32} {x5 : Int32} {y0 : Int32} (hp0 : isPl p0 p0f p0s p0m) (h : ((y0 = 0 → Ev S (d + 3) 39 34 [some (.inr (some p0)), o1, some (.inr (some 1)), some (.inr (some 3)), some (.inl x4), some (.inl (x5 + 1))] [] σ Q) ∧ (¬ (y0 = 0) → Ec S (d + 2) 34 [.inr (some 3), .inl (σ p0 4), .inl x4, .inl x5] σ (fun rv σ' => Ev S (d + 3) 39 54 [some (.inr (some p0)), o1, some (.inr (some 1)), some (.inr (some 3)), some (.inl x4), some (.inl x5)] (rv ++ []) σ' Q)))) : Ev S (d + 3) 39 47 [some (.inr (some p0)), o1, some (.inr (some 1)), some (.inr (some 3)), some (.inl x4), some (.inl x5)] [.inl y0] σ Q := by
  refine e_if (P := y0 = 0) q_39 rfl m_c0 (fun c => ?_) (fun c => ?_)
  · replace h := h.1 c
    refine e_iinc (ls' := [some (.inr (some p0)), o1, some (.inr (some 1)), some (.inr (some 3)), some (.inl x4), some (.inl (x5 + 1))]) q_39 rfl rfl rfl ?_
    refine e_goto q_39 rfl ?_
    exact h
  · replace h := h.2 c
    refine e_load q_39 rfl rfl rfl ?_
    refine e_load q_39 rfl rfl rfl ?_
    refine e_getI q_39 rfl hp0.1 rfl ?_
    refine e_load q_39 rfl rfl rfl ?_
    refine e_load q_39 rfl rfl rfl ?_
    exact e_virt q_39 rfl rfl (Nat.le_of_ble_eq_true rfl) rfl rfl (Nat.le_of_ble_eq_true rfl) rfl h
theorem g_39_54 {S : Nat × (Nat → Int32)} {d : Nat} {σ : Mem} {Q : MQ1} {p0 p0f p0s p0m : Nat} {o1 : Option MV} {x4 : Int32} {x5 : Int32} {y0 : Int32} (hp0 : isPl p0 p0f p0s p0m) (h : ((y0 = 0 → Ev S (d + 3) 39 34 [some (.inr (some p0)), o1, some (.inr (some 1)), some (.inr (some 3)), some (.inl x4), some (.inl (x5 + 1))] [] σ Q) ∧ (¬ (y0 = 0) → Ec S (d + 2) 40 [.inr (some p0), .inr (some 1), .inl x4, .inl x5] σ (fun rv σ' => Ev S (d + 3) 39 60 [some (.inr (some p0)), o1, some (.inr (some 1)), some (.inr (some 3)), some (.inl x4), some (.inl x5)] (rv ++ []) σ' Q)))) : Ev S (d + 3) 39 54 [some (.inr (some p0)), o1, some (.inr (some 1)), some (.inr (some 3)), some (.inl x4), some (.inl x5)] [.inl y0] σ Q := by
  refine e_if (P := y0 = 0) q_39 rfl m_c0 (fun c => ?_) (fun c => ?_)
  · replace h := h.1 c
    refine e_iinc (ls' := [some (.inr (some p0)), o1, some (.inr (some 1)), some (.inr (some 3)), some (.inl x4), some (.inl (x5 + 1))]) q_39 rfl rfl rfl ?_
    refine e_goto q_39 rfl ?_
    exact h
  · replace h := h.2 c
    refine e_load q_39 rfl rfl rfl ?_
    refine e_load q_39 rfl rfl rfl ?_
    refine e_load q_39 rfl rfl rfl ?_
    refine e_load q_39 rfl rfl rfl ?_
    exact e_virt q_39 rfl rfl (Nat.le_of_ble_eq_true rfl) rfl rfl (Nat.le_of_ble_eq_true rfl) hp0.1 h
theorem g_39_60 {S : Nat × (Nat → Int32)} {d : Nat} {σ : Mem} {Q : MQ1} {p0 p0f p0s p0m : Nat} {o1 : Option MV} {x4 : Int32} {x5 : Int32} (hp0 : isPl p0 p0f p0s p0m) (h : Ev S (d + 3) 39 34 [some (.inr (some p0)), o1, some (.inr (some 1)), some (.inr (some 3)), some (.inl x4), some (.inl (x5 + 1))] [] σ Q) : Ev S (d + 3) 39 60 [some (.inr (some p0)), o1, some (.inr (some 1)), some (.inr (some 3)), some (.inl x4), some (.inl x5)] [] σ Q := by
  refine e_iinc (ls' := [some (.inr (some p0)), o1, some (.inr (some 1)), some (.inr (some 3)), some (.inl x4), some (.inl (x5 + 1))]) q_39 rfl rfl rfl ?_
  refine e_goto q_39 rfl ?_
  exact h
theorem g_40_0 {S : Nat × (Nat → Int32)} {d : Nat} {σ : Mem} {Q : MQ1} {p0 p0f p0s p0m : Nat} {x2 : Int32} {x3 : Int32} (hp0 : isPl p0 p0f p0s p0m) (h : ((42 ≤ (σ p0 3) → Q [] σ) ∧ (¬ (42 ≤ (σ p0 3)) → (∃ j1 : Nat, σ p0 3 = nI j1 ∧ j1 < 42 ∧ (∃ j2 : Nat, (up σ p0f j1 x2) p0 3 = nI j2 ∧ j2 < 42 ∧ (∃ j3 : Nat, (5 * 8) + ((up (up σ p0f j1 x2) p0s j2 x3) p0 4) = nI j3 ∧ j3 < 81 ∧ (((¬ x2 = ((up (up σ p0f j1 x2) p0s j2 x3) 2 j3)) → (∃ j4 : Nat, (6 * 8) + ((up (up σ p0f j1 x2) p0s j2 x3) p0 4) = nI j4 ∧ j4 < 81 ∧ (((¬ x3 = ((up (up σ p0f j1 x2) p0s j2 x3) 2 j4)) → (∃ j5 : Nat, (up (up σ p0f j1 x2) p0s j2 x3) p0 3 = nI j5 ∧ j5 < 42 ∧ Q [] (up (up (up (up σ p0f j1 x2) p0s j2 x3) p0m j5 (1 + 1)) p0 3 (((up (up (up σ p0f j1 x2) p0s j2 x3) p0m j5 (1 + 1)) p0 3) + 1)))) ∧ (¬ (¬ x3 = ((up (up σ p0f j1 x2) p0s j2 x3) 2 j4)) → (∃ j6 : Nat, (up (up σ p0f j1 x2) p0s j2 x3) p0 3 = nI j6 ∧ j6 < 42 ∧ Q [] (up (up (up (up σ p0f j1 x2) p0s j2 x3) p0m j6 (1 + 0)) p0 3 (((up (up (up σ p0f j1 x2) p0s j2 x3) p0m j6 (1 + 0)) p0 3) + 1))))))) ∧ (¬ (¬ x2 = ((up (up σ p0f j1 x2) p0s j2 x3) 2 j3)) → (∃ j7 : Nat, (6 * 8) + ((up (up σ p0f j1 x2) p0s j2 x3) p0 4) = nI j7 ∧ j7 < 81 ∧ (((¬ x3 = ((up (up σ p0f j1 x2) p0s j2 x3) 2 j7)) → (∃ j8 : Nat, (up (up σ p0f j1 x2) p0s j2 x3) p0 3 = nI j8 ∧ j8 < 42 ∧ Q [] (up (up (up (up σ p0f j1 x2) p0s j2 x3) p0m j8 (0 + 1)) p0 3 (((up (up (up σ p0f j1 x2) p0s j2 x3) p0m j8 (0 + 1)) p0 3) + 1)))) ∧ (¬ (¬ x3 = ((up (up σ p0f j1 x2) p0s j2 x3) 2 j7)) → (∃ j9 : Nat, (up (up σ p0f j1 x2) p0s j2 x3) p0 3 = nI j9 ∧ j9 < 42 ∧ Q [] (up (up (up (up σ p0f j1 x2) p0s j2 x3) p0m j9 (0 + 0)) p0 3 (((up (up (up σ p0f j1 x2) p0s j2 x3) p0m j9 (0 + 0)) p0 3) + 1)))))))))))))) : Ev S (d + 1) 40 0 [some (.inr (some p0)), some (.inr (some 1)), some (.inl x2), some (.inl x3), none, none] [] σ Q := by
  refine e_load q_40 rfl rfl rfl ?_
  refine e_getI q_40 rfl hp0.1 rfl ?_
  refine e_push q_40 rfl ?_
  refine e_icmp (P := 42 ≤ (σ p0 3)) q_40 rfl m_c3 (fun c => ?_) (fun c => ?_)
  · replace h := h.1 c
    exact e_return q_40 rfl rfl h
  · replace h := h.2 c
    refine e_load q_40 rfl rfl rfl ?_
    refine e_getR q_40 rfl hp0.1 rfl ?_
    refine e_load q_40 rfl rfl rfl ?_
    refine e_getI q_40 rfl hp0.1 rfl ?_
    refine e_load q_40 rfl rfl rfl ?_
    obtain ⟨j1, hjj1, hlj1, h⟩ := h
    refine e_iast q_40 rfl hp0.2.1 (by decide) hjj1 hlj1 ?_
    refine e_load q_40 rfl rfl rfl ?_
    refine e_getR q_40 rfl hp0.1 rfl ?_
    refine e_load q_40 rfl rfl rfl ?_
    refine e_getI q_40 rfl hp0.1 rfl ?_
    refine e_load q_40 rfl rfl rfl ?_
    obtain ⟨j2, hjj2, hlj2, h⟩ := h
    refine e_iast q_40 rfl hp0.2.2.1 (by decide) hjj2 hlj2 ?_
    refine e_load q_40 rfl rfl rfl ?_
    refine e_load q_40 rfl rfl rfl ?_
    refine e_push q_40 rfl ?_
    refine e_load q_40 rfl rfl rfl ?_
    refine e_getI q_40 rfl hp0.1 rfl ?_
    refine e_virt q_40 rfl rfl (Nat.le_of_ble_eq_true rfl) rfl rfl (Nat.le_of_ble_eq_true rfl) rfl ?_
    show Ev S d 8 0 [some (.inr (some 1)), some (.inl 5), some (.inl ((up (up σ p0f j1 x2) p0s j2 x3) p0 4))] [] (up (up σ p0f j1 x2) p0s j2 x3) _
    refine e_load q_8 rfl rfl rfl ?_
    refine e_getR q_8 rfl rfl rfl ?_
    refine e_load q_8 rfl rfl rfl ?_
    refine e_push q_8 rfl ?_
    refine e_bin (r := 5 * 8) q_8 rfl rfl ?_
    refine e_load q_8 rfl rfl rfl ?_
    refine e_bin (r := (5 * 8) + ((up (up σ p0f j1 x2) p0s j2 x3) p0 4)) q_8 rfl rfl ?_
    obtain ⟨j3, hjj3, hlj3, h⟩ := h
    refine e_iald q_8 rfl rfl (by decide) hjj3 hlj3 ?_
    refine e_ireturn q_8 rfl rfl ?_
    show Ev S (d + 1) 40 22 [some (.inr (some p0)), some (.inr (some 1)), some (.inl x2), some (.inl x3), none, none] [.inl ((up (up σ p0f j1 x2) p0s j2 x3) 2 j3), .inl x2] (up (up σ p0f j1 x2) p0s j2 x3) _
    refine e_icmp (P := ¬ x2 = ((up (up σ p0f j1 x2) p0s j2 x3) 2 j3)) q_40 rfl m_c1 (fun c => ?_) (fun c => ?_)
    · replace h := h.1 c
      refine e_push q_40 rfl ?_
      refine e_store (ls' := [some (.inr (some p0)), some (.inr (some 1)), some (.inl x2), some (.inl x3), some (.inl 1), none]) q_40 rfl (Nat.le_of_ble_eq_true rfl) rfl rfl ?_
      refine e_load q_40 rfl rfl rfl ?_
      refine e_load q_40 rfl rfl rfl ?_
      refine e_push q_40 rfl ?_
      refine e_load q_40 rfl rfl rfl ?_
      refine e_getI q_40 rfl hp0.1 rfl ?_
      refine e_virt q_40 rfl rfl (Nat.le_of_ble_eq_true rfl) rfl rfl (Nat.le_of_ble_eq_true rfl) rfl ?_
      show Ev S d 8 0 [some (.inr (some 1)), some (.inl 6), some (.inl ((up (up σ p0f j1 x2) p0s j2 x3) p0 4))] [] (up (up σ p0f j1 x2) p0s j2 x3) _
      refine e_load q_8 rfl rfl rfl ?_
      refine e_getR q_8 rfl rfl rfl ?_
      refine e_load q_8 rfl rfl rfl ?_
      refine e_push q_8 rfl ?_
      refine e_bin (r := 6 * 8) q_8 rfl rfl ?_
      refine e_load q_8 rfl rfl rfl ?_
      refine e_bin (r := (6 * 8) + ((up (up σ p0f j1 x2) p0s j2 x3) p0 4)) q_8 rfl rfl ?_
      obtain ⟨j4, hjj4, hlj4, h⟩ := h
      refine e_iald q_8 rfl rfl (by decide) hjj4 hlj4 ?_
      refine e_ireturn q_8 rfl rfl ?_
      show Ev S (d + 1) 40 33 [some (.inr (some p0)), some (.inr (some 1)), some (.inl x2), some (.inl x3), some (.inl 1), none] [.inl ((up (up σ p0f j1 x2) p0s j2 x3) 2 j4), .inl x3] (up (up σ p0f j1 x2) p0s j2 x3) _
      refine e_icmp (P := ¬ x3 = ((up (up σ p0f j1 x2) p0s j2 x3) 2 j4)) q_40 rfl m_c1 (fun c => ?_) (fun c => ?_)
      · replace h := h.1 c
        refine e_push q_40 rfl ?_
        refine e_store (ls' := [some (.inr (some p0)), some (.inr (some 1)), some (.inl x2), some (.inl x3), some (.inl 1), some (.inl 1)]) q_40 rfl (Nat.le_of_ble_eq_true rfl) rfl rfl ?_
        refine e_load q_40 rfl rfl rfl ?_
        refine e_getR q_40 rfl hp0.1 rfl ?_
        refine e_load q_40 rfl rfl rfl ?_
        refine e_getI q_40 rfl hp0.1 rfl ?_
        refine e_load q_40 rfl rfl rfl ?_
        refine e_load q_40 rfl rfl rfl ?_
        refine e_bin (r := 1 + 1) q_40 rfl rfl ?_
        obtain ⟨j5, hjj5, hlj5, h⟩ := h
        refine e_iast q_40 rfl hp0.2.2.2 (by decide) hjj5 hlj5 ?_
        refine e_load q_40 rfl rfl rfl ?_
        refine e_dup q_40 rfl ?_
        refine e_getI q_40 rfl hp0.1 rfl ?_
        refine e_push q_40 rfl ?_
        refine e_bin (r := ((up (up (up σ p0f j1 x2) p0s j2 x3) p0m j5 (1 + 1)) p0 3) + 1) q_40 rfl rfl ?_
        refine e_putI q_40 rfl hp0.1 rfl ?_
        exact e_return q_40 rfl rfl h
      · replace h := h.2 c
        refine e_push q_40 rfl ?_
        refine e_goto q_40 rfl ?_
        refine e_store (ls' := [some (.inr (some p0)), some (.inr (some 1)), some (.inl x2), some (.inl x3), some (.inl 1), some (.inl 0)]) q_40 rfl (Nat.le_of_ble_eq_true rfl) rfl rfl ?_
        refine e_load q_40 rfl rfl rfl ?_
        refine e_getR q_40 rfl hp0.1 rfl ?_
        refine e_load q_40 rfl rfl rfl ?_
        refine e_getI q_40 rfl hp0.1 rfl ?_
        refine e_load q_40 rfl rfl rfl ?_
        refine e_load q_40 rfl rfl rfl ?_
        refine e_bin (r := 1 + 0) q_40 rfl rfl ?_
        obtain ⟨j6, hjj6, hlj6, h⟩ := h
        refine e_iast q_40 rfl hp0.2.2.2 (by decide) hjj6 hlj6 ?_
        refine e_load q_40 rfl rfl rfl ?_
        refine e_dup q_40 rfl ?_
        refine e_getI q_40 rfl hp0.1 rfl ?_
        refine e_push q_40 rfl ?_
        refine e_bin (r := ((up (up (up σ p0f j1 x2) p0s j2 x3) p0m j6 (1 + 0)) p0 3) + 1) q_40 rfl rfl ?_
        refine e_putI q_40 rfl hp0.1 rfl ?_
        exact e_return q_40 rfl rfl h
    · replace h := h.2 c
      refine e_push q_40 rfl ?_
      refine e_goto q_40 rfl ?_
      refine e_store (ls' := [some (.inr (some p0)), some (.inr (some 1)), some (.inl x2), some (.inl x3), some (.inl 0), none]) q_40 rfl (Nat.le_of_ble_eq_true rfl) rfl rfl ?_
      refine e_load q_40 rfl rfl rfl ?_
      refine e_load q_40 rfl rfl rfl ?_
      refine e_push q_40 rfl ?_
      refine e_load q_40 rfl rfl rfl ?_
      refine e_getI q_40 rfl hp0.1 rfl ?_
      refine e_virt q_40 rfl rfl (Nat.le_of_ble_eq_true rfl) rfl rfl (Nat.le_of_ble_eq_true rfl) rfl ?_
      show Ev S d 8 0 [some (.inr (some 1)), some (.inl 6), some (.inl ((up (up σ p0f j1 x2) p0s j2 x3) p0 4))] [] (up (up σ p0f j1 x2) p0s j2 x3) _
      refine e_load q_8 rfl rfl rfl ?_
      refine e_getR q_8 rfl rfl rfl ?_
      refine e_load q_8 rfl rfl rfl ?_
      refine e_push q_8 rfl ?_
      refine e_bin (r := 6 * 8) q_8 rfl rfl ?_
      refine e_load q_8 rfl rfl rfl ?_
      refine e_bin (r := (6 * 8) + ((up (up σ p0f j1 x2) p0s j2 x3) p0 4)) q_8 rfl rfl ?_
      obtain ⟨j7, hjj7, hlj7, h⟩ := h
      refine e_iald q_8 rfl rfl (by decide) hjj7 hlj7 ?_
      refine e_ireturn q_8 rfl rfl ?_
      show Ev S (d + 1) 40 33 [some (.inr (some p0)), some (.inr (some 1)), some (.inl x2), some (.inl x3), some (.inl 0), none] [.inl ((up (up σ p0f j1 x2) p0s j2 x3) 2 j7), .inl x3] (up (up σ p0f j1 x2) p0s j2 x3) _
      refine e_icmp (P := ¬ x3 = ((up (up σ p0f j1 x2) p0s j2 x3) 2 j7)) q_40 rfl m_c1 (fun c => ?_) (fun c => ?_)
      · replace h := h.1 c
        refine e_push q_40 rfl ?_
        refine e_store (ls' := [some (.inr (some p0)), some (.inr (some 1)), some (.inl x2), some (.inl x3), some (.inl 0), some (.inl 1)]) q_40 rfl (Nat.le_of_ble_eq_true rfl) rfl rfl ?_
        refine e_load q_40 rfl rfl rfl ?_
        refine e_getR q_40 rfl hp0.1 rfl ?_
        refine e_load q_40 rfl rfl rfl ?_
        refine e_getI q_40 rfl hp0.1 rfl ?_
        refine e_load q_40 rfl rfl rfl ?_
        refine e_load q_40 rfl rfl rfl ?_
        refine e_bin (r := 0 + 1) q_40 rfl rfl ?_
        obtain ⟨j8, hjj8, hlj8, h⟩ := h
        refine e_iast q_40 rfl hp0.2.2.2 (by decide) hjj8 hlj8 ?_
        refine e_load q_40 rfl rfl rfl ?_
        refine e_dup q_40 rfl ?_
        refine e_getI q_40 rfl hp0.1 rfl ?_
        refine e_push q_40 rfl ?_
        refine e_bin (r := ((up (up (up σ p0f j1 x2) p0s j2 x3) p0m j8 (0 + 1)) p0 3) + 1) q_40 rfl rfl ?_
        refine e_putI q_40 rfl hp0.1 rfl ?_
        exact e_return q_40 rfl rfl h
      · replace h := h.2 c
        refine e_push q_40 rfl ?_
        refine e_goto q_40 rfl ?_
        refine e_store (ls' := [some (.inr (some p0)), some (.inr (some 1)), some (.inl x2), some (.inl x3), some (.inl 0), some (.inl 0)]) q_40 rfl (Nat.le_of_ble_eq_true rfl) rfl rfl ?_
        refine e_load q_40 rfl rfl rfl ?_
        refine e_getR q_40 rfl hp0.1 rfl ?_
        refine e_load q_40 rfl rfl rfl ?_
        refine e_getI q_40 rfl hp0.1 rfl ?_
        refine e_load q_40 rfl rfl rfl ?_
        refine e_load q_40 rfl rfl rfl ?_
        refine e_bin (r := 0 + 0) q_40 rfl rfl ?_
        obtain ⟨j9, hjj9, hlj9, h⟩ := h
        refine e_iast q_40 rfl hp0.2.2.2 (by decide) hjj9 hlj9 ?_
        refine e_load q_40 rfl rfl rfl ?_
        refine e_dup q_40 rfl ?_
        refine e_getI q_40 rfl hp0.1 rfl ?_
        refine e_push q_40 rfl ?_
        refine e_bin (r := ((up (up (up σ p0f j1 x2) p0s j2 x3) p0m j9 (0 + 0)) p0 3) + 1) q_40 rfl rfl ?_
        refine e_putI q_40 rfl hp0.1 rfl ?_
        exact e_return q_40 rfl rfl h
theorem g_41_0 {S : Nat × (Nat → Int32)} {d : Nat} {σ : Mem} {Q : MQ1} {p0 p0f p0s p0m : Nat} {p1 p1f p1s p1m : Nat} (hp0 : isPl p0 p0f p0s p0m) (hp1 : isPl p1 p1f p1s p1m) (h : (((((σ p0 6) >>> ((σ p1 4) &&& 31)) &&& 1) = 0 → Q [.inl 0] σ) ∧ (¬ ((((σ p0 6) >>> ((σ p1 4) &&& 31)) &&& 1) = 0) → Q [.inl 1] σ))) : Ev S d 41 0 [some (.inr (some p0)), some (.inr (some p1))] [] σ Q := by
  refine e_load q_41 rfl rfl rfl ?_
  refine e_getI q_41 rfl hp0.1 rfl ?_
  refine e_load q_41 rfl rfl rfl ?_
  refine e_getI q_41 rfl hp1.1 rfl ?_
  refine e_bin (r := (σ p0 6) >>> ((σ p1 4) &&& 31)) q_41 rfl rfl ?_
  refine e_push q_41 rfl ?_
  refine e_bin (r := ((σ p0 6) >>> ((σ p1 4) &&& 31)) &&& 1) q_41 rfl rfl ?_
  refine e_if (P := (((σ p0 6) >>> ((σ p1 4) &&& 31)) &&& 1) = 0) q_41 rfl m_c0 (fun c => ?_) (fun c => ?_)
  · replace h := h.1 c
    refine e_push q_41 rfl ?_
    exact e_zreturn q_41 rfl rfl (by decide) h
  · replace h := h.2 c
    refine e_push q_41 rfl ?_
    refine e_goto q_41 rfl ?_
    exact e_zreturn q_41 rfl rfl (by decide) h
theorem g_42_0 {S : Nat × (Nat → Int32)} {d : Nat} {σ : Mem} {Q : MQ1} {p0 p0f p0s p0m : Nat} {p1 p1f p1s p1m : Nat} (hp0 : isPl p0 p0f p0s p0m) (hp1 : isPl p1 p1f p1s p1m) (h : (((σ p0 7) = (σ p1 4) → Q [.inl 1] σ) ∧ (¬ ((σ p0 7) = (σ p1 4)) → (((¬ (σ p1 7) = (σ p0 4)) → Q [.inl 0] σ) ∧ (¬ (¬ (σ p1 7) = (σ p0 4)) → Q [.inl 1] σ))))) : Ev S d 42 0 [some (.inr (some p0)), some (.inr (some p1))] [] σ Q := by
  refine e_load q_42 rfl rfl rfl ?_
  refine e_getI q_42 rfl hp0.1 rfl ?_
  refine e_load q_42 rfl rfl rfl ?_
  refine e_getI q_42 rfl hp1.1 rfl ?_
  refine e_icmp (P := (σ p0 7) = (σ p1 4)) q_42 rfl m_c0 (fun c => ?_) (fun c => ?_)
  · replace h := h.1 c
    refine e_push q_42 rfl ?_
    refine e_goto q_42 rfl ?_
    exact e_zreturn q_42 rfl rfl (by decide) h
  · replace h := h.2 c
    refine e_load q_42 rfl rfl rfl ?_
    refine e_getI q_42 rfl hp1.1 rfl ?_
    refine e_load q_42 rfl rfl rfl ?_
    refine e_getI q_42 rfl hp0.1 rfl ?_
    refine e_icmp (P := ¬ (σ p1 7) = (σ p0 4)) q_42 rfl m_c1 (fun c => ?_) (fun c => ?_)
    · replace h := h.1 c
      refine e_push q_42 rfl ?_
      exact e_zreturn q_42 rfl rfl (by decide) h
    · replace h := h.2 c
      refine e_push q_42 rfl ?_
      refine e_goto q_42 rfl ?_
      exact e_zreturn q_42 rfl rfl (by decide) h
theorem g_43_0 {S : Nat × (Nat → Int32)} {d : Nat} {σ : Mem} {Q : MQ1} {p0 p0f p0s p0m : Nat} {x1 : Int32} (hp0 : isPl p0 p0f p0s p0m) (h : (∃ j1 : Nat, x1 = nI j1 ∧ j1 < 42 ∧ (∃ j2 : Nat, x1 = nI j2 ∧ j2 < 42 ∧ Q [] (up (up σ p0 8 (σ p0f j1)) p0 9 ((up σ p0 8 (σ p0f j1)) p0s j2))))) : Ev S d 43 0 [some (.inr (some p0)), some (.inl x1)] [] σ Q := by
  refine e_load q_43 rfl rfl rfl ?_
  refine e_load q_43 rfl rfl rfl ?_
  refine e_getR q_43 rfl hp0.1 rfl ?_
  refine e_load q_43 rfl rfl rfl ?_
  obtain ⟨j1, hjj1, hlj1, h⟩ := h
  refine e_iald q_43 rfl hp0.2.1 (by decide) hjj1 hlj1 ?_
  refine e_putI q_43 rfl hp0.1 rfl ?_
  refine e_load q_43 rfl rfl rfl ?_
  refine e_load q_43 rfl rfl rfl ?_
  refine e_getR q_43 rfl hp0.1 rfl ?_
  refine e_load q_43 rfl rfl rfl ?_
  obtain ⟨j2, hjj2, hlj2, h⟩ := h
  refine e_iald q_43 rfl hp0.2.2.1 (by decide) hjj2 hlj2 ?_
  refine e_putI q_43 rfl hp0.1 rfl ?_
  exact e_return q_43 rfl rfl h
theorem g_44_0 {S : Nat × (Nat → Int32)} {d : Nat} {σ : Mem} {Q : MQ1} {p0 p0f p0s p0m : Nat} (hp0 : isPl p0 p0f p0s p0m) (h : Q [] (up (up σ p0 10 (σ p0 8)) p0 11 ((up σ p0 10 (σ p0 8)) p0 9))) : Ev S d 44 0 [some (.inr (some p0))] [] σ Q := by
  refine e_load q_44 rfl rfl rfl ?_
  refine e_load q_44 rfl rfl rfl ?_
  refine e_getI q_44 rfl hp0.1 rfl ?_
  refine e_putI q_44 rfl hp0.1 rfl ?_
  refine e_load q_44 rfl rfl rfl ?_
  refine e_load q_44 rfl rfl rfl ?_
  refine e_getI q_44 rfl hp0.1 rfl ?_
  refine e_putI q_44 rfl hp0.1 rfl ?_
  exact e_return q_44 rfl rfl h
theorem g_45_0 {S : Nat × (Nat → Int32)} {d : Nat} {σ : Mem} {Q : MQ1} {p0 p0f p0s p0m : Nat} (hp0 : isPl p0 p0f p0s p0m) (h : (∃ j1 : Nat, (5 * 8) + (σ p0 4) = nI j1 ∧ j1 < 81 ∧ (∃ j2 : Nat, (6 * 8) + ((up σ 2 j1 (σ p0 10)) p0 4) = nI j2 ∧ j2 < 81 ∧ Q [] (up (up σ 2 j1 (σ p0 10)) 2 j2 ((up σ 2 j1 (σ p0 10)) p0 11))))) : Ev S (d + 1) 45 0 [some (.inr (some p0)), some (.inr (some 1))] [] σ Q := by
  refine e_load q_45 rfl rfl rfl ?_
  refine e_push q_45 rfl ?_
  refine e_load q_45 rfl rfl rfl ?_
  refine e_getI q_45 rfl hp0.1 rfl ?_
  refine e_load q_45 rfl rfl rfl ?_
  refine e_getI q_45 rfl hp0.1 rfl ?_
  refine e_virt q_45 rfl rfl (Nat.le_of_ble_eq_true rfl) rfl rfl (Nat.le_of_ble_eq_true rfl) rfl ?_
  show Ev S d 9 0 [some (.inr (some 1)), some (.inl 5), some (.inl (σ p0 4)), some (.inl (σ p0 10))] [] σ _
  refine e_load q_9 rfl rfl rfl ?_
  refine e_getR q_9 rfl rfl rfl ?_
  refine e_load q_9 rfl rfl rfl ?_
  refine e_push q_9 rfl ?_
  refine e_bin (r := 5 * 8) q_9 rfl rfl ?_
  refine e_load q_9 rfl rfl rfl ?_
  refine e_bin (r := (5 * 8) + (σ p0 4)) q_9 rfl rfl ?_
  refine e_load q_9 rfl rfl rfl ?_
  obtain ⟨j1, hjj1, hlj1, h⟩ := h
  refine e_iast q_9 rfl rfl (by decide) hjj1 hlj1 ?_
  refine e_return q_9 rfl rfl ?_
  show Ev S (d + 1) 45 7 [some (.inr (some p0)), some (.inr (some 1))] [] (up σ 2 j1 (σ p0 10)) _
  refine e_load q_45 rfl rfl rfl ?_
  refine e_push q_45 rfl ?_
  refine e_load q_45 rfl rfl rfl ?_
  refine e_getI q_45 rfl hp0.1 rfl ?_
  refine e_load q_45 rfl rfl rfl ?_
  refine e_getI q_45 rfl hp0.1 rfl ?_
  refine e_virt q_45 rfl rfl (Nat.le_of_ble_eq_true rfl) rfl rfl (Nat.le_of_ble_eq_true rfl) rfl ?_
  show Ev S d 9 0 [some (.inr (some 1)), some (.inl 6), some (.inl ((up σ 2 j1 (σ p0 10)) p0 4)), some (.inl ((up σ 2 j1 (σ p0 10)) p0 11))] [] (up σ 2 j1 (σ p0 10)) _
  refine e_load q_9 rfl rfl rfl ?_
  refine e_getR q_9 rfl rfl rfl ?_
  refine e_load q_9 rfl rfl rfl ?_
  refine e_push q_9 rfl ?_
  refine e_bin (r := 6 * 8) q_9 rfl rfl ?_
  refine e_load q_9 rfl rfl rfl ?_
  refine e_bin (r := (6 * 8) + ((up σ 2 j1 (σ p0 10)) p0 4)) q_9 rfl rfl ?_
  refine e_load q_9 rfl rfl rfl ?_
  obtain ⟨j2, hjj2, hlj2, h⟩ := h
  refine e_iast q_9 rfl rfl (by decide) hjj2 hlj2 ?_
  refine e_return q_9 rfl rfl ?_
  show Ev S (d + 1) 45 14 [some (.inr (some p0)), some (.inr (some 1))] [] (up (up σ 2 j1 (σ p0 10)) 2 j2 ((up σ 2 j1 (σ p0 10)) p0 11)) _
  exact e_return q_45 rfl rfl h
theorem g_47_6 {S : Nat × (Nat → Int32)} {d : Nat} {σ : Mem} {Q : MQ1} {o0 : Option MV} {y0 : Int32} {y1 : Int32}  (h : (((y0 - y1) ≤ 4 → Q [.inl 0] σ) ∧ (¬ ((y0 - y1) ≤ 4) → Q [.inl 1] σ))) : Ev S (d + 2) 47 6 [o0] [.inl y1, .inl y0] σ Q := by
  refine e_bin (r := y0 - y1) q_47 rfl rfl ?_
  refine e_push q_47 rfl ?_
  refine e_icmp (P := (y0 - y1) ≤ 4) q_47 rfl m_c5 (fun c => ?_) (fun c => ?_)
  · replace h := h.1 c
    refine e_push q_47 rfl ?_
    exact e_zreturn q_47 rfl rfl (by decide) h
  · replace h := h.2 c
    refine e_push q_47 rfl ?_
    refine e_goto q_47 rfl ?_
    exact e_zreturn q_47 rfl rfl (by decide) h
theorem g_51_8 {S : Nat × (Nat → Int32)} {d : Nat} {σ : Mem} {Q : MQ1} {o1 : Option MV} {y0 : Int32}  (h : ((y0 = 0 → Q [] σ) ∧ (¬ (y0 = 0) → Ec S (d + 3) 55 [.inr (some 4)] σ (fun rv σ' => Ev S (d + 4) 51 14 [some (.inr (some 4)), o1] (rv ++ [.inl 0, .inl 0, .inr (some 4)]) σ' Q)))) : Ev S (d + 4) 51 8 [some (.inr (some 4)), o1] [.inl y0] σ Q := by
  refine e_if (P := y0 = 0) q_51 rfl m_c0 (fun c => ?_) (fun c => ?_)
  · replace h := h.1 c
    exact e_return q_51 rfl rfl h
  · replace h := h.2 c
    refine e_load q_51 rfl rfl rfl ?_
    refine e_push q_51 rfl ?_
    refine e_push q_51 rfl ?_
    refine e_load q_51 rfl rfl rfl ?_
    exact e_virt q_51 rfl rfl (Nat.le_of_ble_eq_true rfl) rfl rfl (Nat.le_of_ble_eq_true rfl) rfl h
theorem g_51_14 {S : Nat × (Nat → Int32)} {d : Nat} {σ : Mem} {Q : MQ1} {o0 : Option MV} {o1 : Option MV} {y1 : Int32} {y2 : Int32} {y3 : Int32}  (h : Ec S (d + 3) 56 [.inr (some 4), .inl y1, .inl y2, .inl y3] σ (fun rv σ' => Ev S (d + 4) 51 15 [o0, o1] (rv ++ []) σ' Q)) : Ev S (d + 4) 51 14 [o0, o1] [.inl y3, .inl y2, .inl y1, .inr (some 4)] σ Q := by
  exact e_virt q_51 rfl rfl (Nat.le_of_ble_eq_true rfl) rfl rfl (Nat.le_of_ble_eq_true rfl) rfl h
theorem g_51_15 {S : Nat × (Nat → Int32)} {d : Nat} {σ : Mem} {Q : MQ1} {o0 : Option MV} {o1 : Option MV}  (h : Q [] σ) : Ev S (d + 4) 51 15 [o0, o1] [] σ Q := by
  exact e_return q_51 rfl rfl h
theorem g_52_0 {S : Nat × (Nat → Int32)} {d : Nat} {σ : Mem} {Q : MQ1}   (h : Ev S (d + 2) 52 2 [some (.inr (some 4)), some (.inl 0)] [] σ Q) : Ev S (d + 2) 52 0 [some (.inr (some 4)), none] [] σ Q := by
  refine e_push q_52 rfl ?_
  refine e_store (ls' := [some (.inr (some 4)), some (.inl 0)]) q_52 rfl (Nat.le_of_ble_eq_true rfl) rfl rfl ?_
  exact h
theorem g_52_2 {S : Nat × (Nat → Int32)} {d : Nat} {σ : Mem} {Q : MQ1} {x1 : Int32}  (h : (((σ 4 6) ≤ x1 → Q [] σ) ∧ (¬ ((σ 4 6) ≤ x1) → (∃ j1 r2 r2f r2s r2m : Nat, x1 = nI j1 ∧ ([6, 10, 14, 18] : List Nat)[j1]? = some r2 ∧ isPl r2 r2f r2s r2m ∧ Ec S (d + 1) 45 [.inr (some r2), .inr (some 1)] σ (fun rv σ' => Ev S (d + 2) 52 13 [some (.inr (some 4)), some (.inl x1)] (rv ++ []) σ' Q))))) : Ev S (d + 2) 52 2 [some (.inr (some 4)), some (.inl x1)] [] σ Q := by
  refine e_load q_52 rfl rfl rfl ?_
  refine e_load q_52 rfl rfl rfl ?_
  refine e_getI q_52 rfl rfl rfl ?_
  refine e_icmp (P := (σ 4 6) ≤ x1) q_52 rfl m_c3 (fun c => ?_) (fun c => ?_)
  · replace h := h.1 c
    exact e_return q_52 rfl rfl h
  · replace h := h.2 c
    refine e_load q_52 rfl rfl rfl ?_
    refine e_getR q_52 rfl rfl rfl ?_
    refine e_load q_52 rfl rfl rfl ?_
    obtain ⟨j1, r2, r2f, r2s, r2m, hjj1, hlj1, hr2, h⟩ := h
    refine e_aald q_52 rfl rfl (by decide) hjj1 hlj1 (by have := (List.getElem?_eq_some_iff.mp hlj1).1; simp at this; omega) ?_
    refine e_load q_52 rfl rfl rfl ?_
    refine e_getR q_52 rfl rfl rfl ?_
    exact e_virt q_52 rfl rfl (Nat.le_of_ble_eq_true rfl) rfl rfl (Nat.le_of_ble_eq_true rfl) hr2.1 h
theorem g_52_13 {S : Nat × (Nat → Int32)} {d : Nat} {σ : Mem} {Q : MQ1} {x1 : Int32}  (h : Ev S (d + 2) 52 2 [some (.inr (some 4)), some (.inl (x1 + 1))] [] σ Q) : Ev S (d + 2) 52 13 [some (.inr (some 4)), some (.inl x1)] [] σ Q := by
  refine e_iinc (ls' := [some (.inr (some 4)), some (.inl (x1 + 1))]) q_52 rfl rfl rfl ?_
  refine e_goto q_52 rfl ?_
  exact h
theorem g_53_0 {S : Nat × (Nat → Int32)} {d : Nat} {σ : Mem} {Q : MQ1}   (h : Ev S (d + 4) 53 5 [some (.inr (some 4)), some (.inl 0)] [] (up σ 4 6 0) Q) : Ev S (d + 4) 53 0 [some (.inr (some 4)), none] [] σ Q := by
  refine e_load q_53 rfl rfl rfl ?_
  refine e_push q_53 rfl ?_
  refine e_putI q_53 rfl rfl rfl ?_
  refine e_push q_53 rfl ?_
  refine e_store (ls' := [some (.inr (some 4)), some (.inl 0)]) q_53 rfl (Nat.le_of_ble_eq_true rfl) rfl rfl ?_
  exact h
theorem g_53_5 {S : Nat × (Nat → Int32)} {d : Nat} {σ : Mem} {Q : MQ1} {x1 : Int32}  (h : (((σ 2 80) ≤ x1 → Q [] σ) ∧ (¬ ((σ 2 80) ≤ x1) → ((4 ≤ (σ 4 6) → Q [] σ) ∧ (¬ (4 ≤ (σ 4 6)) → (∃ j2 : Nat, 0 + x1 = nI j2 ∧ j2 < 81 ∧ (((¬ (σ 2 j2) = 2) → (∃ j3 r4 r4f r4s r4m : Nat, σ 4 6 = nI j3 ∧ ([6, 10, 14, 18] : List Nat)[j3]? = some r4 ∧ isPl r4 r4f r4s r4m ∧ Ec S (d + 3) 39 [.inr (some r4), .inl x1, .inr (some 1), .inr (some 3)] σ (fun rv σ' => Ev S (d + 4) 53 30 [some (.inr (some 4)), some (.inl x1)] (rv ++ []) σ' Q))) ∧ (¬ (¬ (σ 2 j2) = 2) → Ev S (d + 4) 53 5 [some (.inr (some 4)), some (.inl (x1 + 1))] [] σ Q)))))))) : Ev S (d + 4) 53 5 [some (.inr (some 4)), some (.inl x1)] [] σ Q := by
  refine e_load q_53 rfl rfl rfl ?_
  refine e_load q_53 rfl rfl rfl ?_
  refine e_getR q_53 rfl rfl rfl ?_
  refine e_virt q_53 rfl rfl (Nat.le_of_ble_eq_true rfl) rfl rfl (Nat.le_of_ble_eq_true rfl) rfl ?_
  show Ev S (d + 3) 7 0 [some (.inr (some 1))] [] σ _
  refine e_load q_7 rfl rfl rfl ?_
  refine e_getR q_7 rfl rfl rfl ?_
  refine e_push q_7 rfl ?_
  refine e_iald (j := 80) q_7 rfl rfl (by decide) (by decide +kernel) (by decide) ?_
  refine e_ireturn q_7 rfl rfl ?_
  show Ev S (d + 4) 53 9 [some (.inr (some 4)), some (.inl x1)] [.inl (σ 2 80), .inl x1] σ _
  refine e_icmp (P := (σ 2 80) ≤ x1) q_53 rfl m_c3 (fun c => ?_) (fun c => ?_)
  · replace h := h.1 c
    exact e_return q_53 rfl rfl h
  · replace h := h.2 c
    refine e_load q_53 rfl rfl rfl ?_
    refine e_getI q_53 rfl rfl rfl ?_
    refine e_push q_53 rfl ?_
    refine e_icmp (P := 4 ≤ (σ 4 6)) q_53 rfl m_c3 (fun c => ?_) (fun c => ?_)
    · replace h := h.1 c
      exact e_return q_53 rfl rfl h
    · replace h := h.2 c
      refine e_load q_53 rfl rfl rfl ?_
      refine e_getR q_53 rfl rfl rfl ?_
      refine e_load q_53 rfl rfl rfl ?_
      refine e_virt q_53 rfl rfl (Nat.le_of_ble_eq_true rfl) rfl rfl (Nat.le_of_ble_eq_true rfl) rfl ?_
      show Ev S (d + 3) 12 0 [some (.inr (some 1)), some (.inl x1)] [] σ _
      refine e_load q_12 rfl rfl rfl ?_
      refine e_getR q_12 rfl rfl rfl ?_
      refine e_push q_12 rfl ?_
      refine e_load q_12 rfl rfl rfl ?_
      refine e_bin (r := 0 + x1) q_12 rfl rfl ?_
      obtain ⟨j2, hjj2, hlj2, h⟩ := h
      refine e_iald q_12 rfl rfl (by decide) hjj2 hlj2 ?_
      refine e_push q_12 rfl ?_
      refine e_icmp (P := ¬ (σ 2 j2) = 2) q_12 rfl m_c1 (fun c => ?_) (fun c => ?_)
      · replace h := h.1 c
        refine e_push q_12 rfl ?_
        refine e_zreturn q_12 rfl rfl (by decide) ?_
        show Ev S (d + 4) 53 18 [some (.inr (some 4)), some (.inl x1)] [.inl 0] σ _
        refine e_if (P := ¬ (0 : Int32) = 0) q_53 rfl m_c1 (fun c => absurd c (by decide)) (fun _ => ?_)
        refine e_load q_53 rfl rfl rfl ?_
        refine e_getR q_53 rfl rfl rfl ?_
        refine e_load q_53 rfl rfl rfl ?_
        refine e_getI q_53 rfl rfl rfl ?_
        obtain ⟨j3, r4, r4f, r4s, r4m, hjj3, hlj3, hr4, h⟩ := h
        refine e_aald q_53 rfl rfl (by decide) hjj3 hlj3 (by have := (List.getElem?_eq_some_iff.mp hlj3).1; simp at this; omega) ?_
        refine e_load q_53 rfl rfl rfl ?_
        refine e_load q_53 rfl rfl rfl ?_
        refine e_getR q_53 rfl rfl rfl ?_
        refine e_load q_53 rfl rfl rfl ?_
        refine e_getR q_53 rfl rfl rfl ?_
        exact e_virt q_53 rfl rfl (Nat.le_of_ble_eq_true rfl) rfl rfl (Nat.le_of_ble_eq_true rfl) hr4.1 h
      · replace h := h.2 c
        refine e_push q_12 rfl ?_
        refine e_goto q_12 rfl ?_
        refine e_zreturn q_12 rfl rfl (by decide) ?_
        show Ev S (d + 4) 53 18 [some (.inr (some 4)), some (.inl x1)] [.inl 1] σ _
        refine e_if (P := ¬ (1 : Int32) = 0) q_53 rfl m_c1 (fun _ => ?_) (fun c => absurd (by decide) c)
        refine e_iinc (ls' := [some (.inr (some 4)), some (.inl (x1 + 1))]) q_53 rfl rfl rfl ?_
        refine e_goto q_53 rfl ?_
        exact h
theorem g_53_30 {S : Nat × (Nat → Int32)} {d : Nat} {σ : Mem} {Q : MQ1} {x1 : Int32}  (h : Ev S (d + 4) 53 5 [some (.inr (some 4)), some (.inl (x1 + 1))] [] (up σ 4 6 ((σ 4 6) + 1)) Q) : Ev S (d + 4) 53 30 [some (.inr (some 4)), some (.inl x1)] [] σ Q := by
  refine e_load q_53 rfl rfl rfl ?_
  refine e_dup q_53 rfl ?_
  refine e_getI q_53 rfl rfl rfl ?_
  refine e_push q_53 rfl ?_
  refine e_bin (r := (σ 4 6) + 1) q_53 rfl rfl ?_
  refine e_putI q_53 rfl rfl rfl ?_
  refine e_iinc (ls' := [some (.inr (some 4)), some (.inl (x1 + 1))]) q_53 rfl rfl rfl ?_
  refine e_goto q_53 rfl ?_
  exact h
theorem g_54_0 {S : Nat × (Nat → Int32)} {d : Nat} {σ : Mem} {Q : MQ1}   (h : Ev S (d + 3) 54 4 [some (.inr (some 4)), some (.inl 1), some (.inl 0)] [] σ Q) : Ev S (d + 3) 54 0 [some (.inr (some 4)), none, none] [] σ Q := by
  refine e_push q_54 rfl ?_
  refine e_store (ls' := [some (.inr (some 4)), some (.inl 1), none]) q_54 rfl (Nat.le_of_ble_eq_true rfl) rfl rfl ?_
  refine e_push q_54 rfl ?_
  refine e_store (ls' := [some (.inr (some 4)), some (.inl 1), some (.inl 0)]) q_54 rfl (Nat.le_of_ble_eq_true rfl) rfl rfl ?_
  exact h
theorem g_54_4 {S : Nat × (Nat → Int32)} {d : Nat} {σ : Mem} {Q : MQ1} {x1 : Int32} {x2 : Int32}  (h : ((6 ≤ x2 → ((x1 = 0 ∨ x1 = 1) ∧ Q [.inl x1] σ)) ∧ (¬ (6 ≤ x2) → (∃ j1 : Nat, 72 + x2 = nI j1 ∧ j1 < 81 ∧ (∃ j2 : Nat, x2 = nI j2 ∧ j2 < 6 ∧ ((((((up σ 22 j2 (σ 2 j1)) 2 78) >>> (x2 &&& 31)) &&& 1) = 0 → Ec S (d + 1) 14 [.inr (some 1)] (up σ 22 j2 (σ 2 j1)) (fun rv σ' => Ev S (d + 2) 31 10 [some (.inr (some 3)), some (.inl x2)] (rv ++ []) σ' (fun rv σ' => Ev S (d + 3) 54 22 [some (.inr (some 4)), some (.inl x1), some (.inl x2)] (rv ++ [.inl x2, .inr (some 23)]) σ' Q))) ∧ (¬ (((((up σ 22 j2 (σ 2 j1)) 2 78) >>> (x2 &&& 31)) &&& 1) = 0) → (∃ j4 : Nat, x2 = nI j4 ∧ j4 < 6 ∧ (∃ j5 : Nat, x2 = nI j5 ∧ j5 < 6 ∧ (∃ j6 : Nat, x2 = nI j6 ∧ j6 < 6 ∧ ((((up (up σ 22 j2 (σ 2 j1)) 23 j4 0) 22 j6) < ((up (up σ 22 j2 (σ 2 j1)) 23 j4 0) 23 j5) → Ev S (d + 3) 54 4 [some (.inr (some 4)), some (.inl (x1 &&& 0)), some (.inl (x2 + 1))] [] (up (up σ 22 j2 (σ 2 j1)) 23 j4 0) Q) ∧ (¬ (((up (up σ 22 j2 (σ 2 j1)) 23 j4 0) 22 j6) < ((up (up σ 22 j2 (σ 2 j1)) 23 j4 0) 23 j5)) → Ev S (d + 3) 54 4 [some (.inr (some 4)), some (.inl (x1 &&& 1)), some (.inl (x2 + 1))] [] (up (up σ 22 j2 (σ 2 j1)) 23 j4 0) Q)))))))))))) : Ev S (d + 3) 54 4 [some (.inr (some 4)), some (.inl x1), some (.inl x2)] [] σ Q := by
  refine e_load q_54 rfl rfl rfl ?_
  refine e_push q_54 rfl ?_
  refine e_icmp (P := 6 ≤ x2) q_54 rfl m_c3 (fun c => ?_) (fun c => ?_)
  · replace h := h.1 c
    refine e_load q_54 rfl rfl rfl ?_
    exact e_zreturn q_54 rfl rfl h.1 h.2
  · replace h := h.2 c
    refine e_load q_54 rfl rfl rfl ?_
    refine e_getR q_54 rfl rfl rfl ?_
    refine e_load q_54 rfl rfl rfl ?_
    refine e_load q_54 rfl rfl rfl ?_
    refine e_getR q_54 rfl rfl rfl ?_
    refine e_load q_54 rfl rfl rfl ?_
    refine e_virt q_54 rfl rfl (Nat.le_of_ble_eq_true rfl) rfl rfl (Nat.le_of_ble_eq_true rfl) rfl ?_
    show Ev S (d + 2) 16 0 [some (.inr (some 1)), some (.inl x2)] [] σ _
    refine e_load q_16 rfl rfl rfl ?_
    refine e_getR q_16 rfl rfl rfl ?_
    refine e_push q_16 rfl ?_
    refine e_load q_16 rfl rfl rfl ?_
    refine e_bin (r := 72 + x2) q_16 rfl rfl ?_
    obtain ⟨j1, hjj1, hlj1, h⟩ := h
    refine e_iald q_16 rfl rfl (by decide) hjj1 hlj1 ?_
    refine e_ireturn q_16 rfl rfl ?_
    show Ev S (d + 3) 54 14 [some (.inr (some 4)), some (.inl x1), some (.inl x2)] [.inl (σ 2 j1), .inl x2, .inr (some 22)] σ _
    obtain ⟨j2, hjj2, hlj2, h⟩ := h
    refine e_iast q_54 rfl rfl (by decide) hjj2 hlj2 ?_
    refine e_load q_54 rfl rfl rfl ?_
    refine e_getR q_54 rfl rfl rfl ?_
    refine e_load q_54 rfl rfl rfl ?_
    refine e_load q_54 rfl rfl rfl ?_
    refine e_getR q_54 rfl rfl rfl ?_
    refine e_load q_54 rfl rfl rfl ?_
    refine e_virt q_54 rfl rfl (Nat.le_of_ble_eq_true rfl) rfl rfl (Nat.le_of_ble_eq_true rfl) rfl ?_
    show Ev S (d + 2) 31 0 [some (.inr (some 3)), some (.inl x2)] [] (up σ 22 j2 (σ 2 j1)) _
    refine e_load q_31 rfl rfl rfl ?_
    refine e_getR q_31 rfl rfl rfl ?_
    refine e_load q_31 rfl rfl rfl ?_
    refine e_virt q_31 rfl rfl (Nat.le_of_ble_eq_true rfl) rfl rfl (Nat.le_of_ble_eq_true rfl) rfl ?_
    show Ev S (d + 1) 18 0 [some (.inr (some 1)), some (.inl x2)] [] (up σ 22 j2 (σ 2 j1)) _
    refine e_load q_18 rfl rfl rfl ?_
    refine e_getR q_18 rfl rfl rfl ?_
    refine e_push q_18 rfl ?_
    refine e_iald (j := 78) q_18 rfl rfl (by decide) (by decide +kernel) (by decide) ?_
    refine e_load q_18 rfl rfl rfl ?_
    refine e_stat q_18 rfl (Nat.le_of_ble_eq_true rfl) rfl rfl (Nat.le_of_ble_eq_true rfl) ?_
    show Ev S d 110 0 [some (.inl ((up σ 22 j2 (σ 2 j1)) 2 78)), some (.inl x2)] [] (up σ 22 j2 (σ 2 j1)) _
    refine e_load q_110 rfl rfl rfl ?_
    refine e_load q_110 rfl rfl rfl ?_
    refine e_bin (r := ((up σ 22 j2 (σ 2 j1)) 2 78) >>> (x2 &&& 31)) q_110 rfl rfl ?_
    refine e_push q_110 rfl ?_
    refine e_bin (r := (((up σ 22 j2 (σ 2 j1)) 2 78) >>> (x2 &&& 31)) &&& 1) q_110 rfl rfl ?_
    refine e_if (P := ((((up σ 22 j2 (σ 2 j1)) 2 78) >>> (x2 &&& 31)) &&& 1) = 0) q_110 rfl m_c0 (fun c => ?_) (fun c => ?_)
    · replace h := h.1 c
      refine e_push q_110 rfl ?_
      refine e_zreturn q_110 rfl rfl (by decide) ?_
      show Ev S (d + 1) 18 6 [some (.inr (some 1)), some (.inl x2)] [.inl 0] (up σ 22 j2 (σ 2 j1)) _
      refine e_zreturn q_18 rfl rfl (by decide) ?_
      show Ev S (d + 2) 31 4 [some (.inr (some 3)), some (.inl x2)] [.inl 0] (up σ 22 j2 (σ 2 j1)) _
      refine e_if (P := (0 : Int32) = 0) q_31 rfl m_c0 (fun _ => ?_) (fun c => absurd (by decide) c)
      refine e_load q_31 rfl rfl rfl ?_
      refine e_getR q_31 rfl rfl rfl ?_
      exact e_virt q_31 rfl rfl (Nat.le_of_ble_eq_true rfl) rfl rfl (Nat.le_of_ble_eq_true rfl) rfl h
    · replace h := h.2 c
      refine e_push q_110 rfl ?_
      refine e_goto q_110 rfl ?_
      refine e_zreturn q_110 rfl rfl (by decide) ?_
      show Ev S (d + 1) 18 6 [some (.inr (some 1)), some (.inl x2)] [.inl 1] (up σ 22 j2 (σ 2 j1)) _
      refine e_zreturn q_18 rfl rfl (by decide) ?_
      show Ev S (d + 2) 31 4 [some (.inr (some 3)), some (.inl x2)] [.inl 1] (up σ 22 j2 (σ 2 j1)) _
      refine e_if (P := (1 : Int32) = 0) q_31 rfl m_c0 (fun c => absurd c (by decide)) (fun _ => ?_)
      refine e_push q_31 rfl ?_
      refine e_goto q_31 rfl ?_
      refine e_ireturn q_31 rfl rfl ?_
      show Ev S (d + 3) 54 22 [some (.inr (some 4)), some (.inl x1), some (.inl x2)] [.inl 0, .inl x2, .inr (some 23)] (up σ 22 j2 (σ 2 j1)) _
      obtain ⟨j4, hjj4, hlj4, h⟩ := h
      refine e_iast q_54 rfl rfl (by decide) hjj4 hlj4 ?_
      refine e_load q_54 rfl rfl rfl ?_
      refine e_load q_54 rfl rfl rfl ?_
      refine e_getR q_54 rfl rfl rfl ?_
      refine e_load q_54 rfl rfl rfl ?_
      obtain ⟨j5, hjj5, hlj5, h⟩ := h
      refine e_iald q_54 rfl rfl (by decide) hjj5 hlj5 ?_
      refine e_load q_54 rfl rfl rfl ?_
      refine e_getR q_54 rfl rfl rfl ?_
      refine e_load q_54 rfl rfl rfl ?_
      obtain ⟨j6, hjj6, hlj6, h⟩ := h
      refine e_iald q_54 rfl rfl (by decide) hjj6 hlj6 ?_
      refine e_icmp (P := ((up (up σ 22 j2 (σ 2 j1)) 23 j4 0) 22 j6) < ((up (up σ 22 j2 (σ 2 j1)) 23 j4 0) 23 j5)) q_54 rfl m_c4 (fun c => ?_) (fun c => ?_)
      · replace h := h.1 c
        refine e_push q_54 rfl ?_
        refine e_bin (r := x1 &&& 0) q_54 rfl rfl ?_
        refine e_store (ls' := [some (.inr (some 4)), some (.inl (x1 &&& 0)), some (.inl x2)]) q_54 rfl (Nat.le_of_ble_eq_true rfl) rfl rfl ?_
        refine e_iinc (ls' := [some (.inr (some 4)), some (.inl (x1 &&& 0)), some (.inl (x2 + 1))]) q_54 rfl rfl rfl ?_
        refine e_goto q_54 rfl ?_
        exact h
      · replace h := h.2 c
        refine e_push q_54 rfl ?_
        refine e_goto q_54 rfl ?_
        refine e_bin (r := x1 &&& 1) q_54 rfl rfl ?_
        refine e_store (ls' := [some (.inr (some 4)), some (.inl (x1 &&& 1)), some (.inl x2)]) q_54 rfl (Nat.le_of_ble_eq_true rfl) rfl rfl ?_
        refine e_iinc (ls' := [some (.inr (some 4)), some (.inl (x1 &&& 1)), some (.inl (x2 + 1))]) q_54 rfl rfl rfl ?_
        refine e_goto q_54 rfl ?_
        exact h
theorem g_54_22 {S : Nat × (Nat → Int32)} {d : Nat} {σ : Mem} {Q : MQ1} {x1 : Int32} {x2 : Int32} {y1 : Int32} {y2 : Int32}  (h : (∃ j1 : Nat, y1 = nI j1 ∧ j1 < 6 ∧ (∃ j2 : Nat, x2 = nI j2 ∧ j2 < 6 ∧ (∃ j3 : Nat, x2 = nI j3 ∧ j3 < 6 ∧ ((((up σ 23 j1 y2) 22 j3) < ((up σ 23 j1 y2) 23 j2) → Ev S (d + 3) 54 4 [some (.inr (some 4)), some (.inl (x1 &&& 0)), some (.inl (x2 + 1))] [] (up σ 23 j1 y2) Q) ∧ (¬ (((up σ 23 j1 y2) 22 j3) < ((up σ 23 j1 y2) 23 j2)) → Ev S (d + 3) 54 4 [some (.inr (some 4)), some (.inl (x1 &&& 1)), some (.inl (x2 + 1))] [] (up σ 23 j1 y2) Q)))))) : Ev S (d + 3) 54 22 [some (.inr (some 4)), some (.inl x1), some (.inl x2)] [.inl y2, .inl y1, .inr (some 23)] σ Q := by
  obtain ⟨j1, hjj1, hlj1, h⟩ := h
  refine e_iast q_54 rfl rfl (by decide) hjj1 hlj1 ?_
  refine e_load q_54 rfl rfl rfl ?_
  refine e_load q_54 rfl rfl rfl ?_
  refine e_getR q_54 rfl rfl rfl ?_
  refine e_load q_54 rfl rfl rfl ?_
  obtain ⟨j2, hjj2, hlj2, h⟩ := h
  refine e_iald q_54 rfl rfl (by decide) hjj2 hlj2 ?_
  refine e_load q_54 rfl rfl rfl ?_
  refine e_getR q_54 rfl rfl rfl ?_
  refine e_load q_54 rfl rfl rfl ?_
  obtain ⟨j3, hjj3, hlj3, h⟩ := h
  refine e_iald q_54 rfl rfl (by decide) hjj3 hlj3 ?_
  refine e_icmp (P := ((up σ 23 j1 y2) 22 j3) < ((up σ 23 j1 y2) 23 j2)) q_54 rfl m_c4 (fun c => ?_) (fun c => ?_)
  · replace h := h.1 c
    refine e_push q_54 rfl ?_
    refine e_bin (r := x1 &&& 0) q_54 rfl rfl ?_
    refine e_store (ls' := [some (.inr (some 4)), some (.inl (x1 &&& 0)), some (.inl x2)]) q_54 rfl (Nat.le_of_ble_eq_true rfl) rfl rfl ?_
    refine e_iinc (ls' := [some (.inr (some 4)), some (.inl (x1 &&& 0)), some (.inl (x2 + 1))]) q_54 rfl rfl rfl ?_
    refine e_goto q_54 rfl ?_
    exact h
  · replace h := h.2 c
    refine e_push q_54 rfl ?_
    refine e_goto q_54 rfl ?_
    refine e_bin (r := x1 &&& 1) q_54 rfl rfl ?_
    refine e_store (ls' := [some (.inr (some 4)), some (.inl (x1 &&& 1)), some (.inl x2)]) q_54 rfl (Nat.le_of_ble_eq_true rfl) rfl rfl ?_
    refine e_iinc (ls' := [some (.inr (some 4)), some (.inl (x1 &&& 1)), some (.inl (x2 + 1))]) q_54 rfl rfl rfl ?_
    refine e_goto q_54 rfl ?_
    exact h
theorem g_55_0 {S : Nat × (Nat → Int32)} {d : Nat} {σ : Mem} {Q : MQ1}   (h : Ev S d 55 4 [some (.inr (some 4)), some (.inl 0), some (.inl 0)] [] σ Q) : Ev S d 55 0 [some (.inr (some 4)), none, none] [] σ Q := by
  refine e_push q_55 rfl ?_
  refine e_store (ls' := [some (.inr (some 4)), some (.inl 0), none]) q_55 rfl (Nat.le_of_ble_eq_true rfl) rfl rfl ?_
  refine e_push q_55 rfl ?_
  refine e_store (ls' := [some (.inr (some 4)), some (.inl 0), some (.inl 0)]) q_55 rfl (Nat.le_of_ble_eq_true rfl) rfl rfl ?_
  exact h
theorem g_55_4 {S : Nat × (Nat → Int32)} {d : Nat} {σ : Mem} {Q : MQ1} {x1 : Int32} {x2 : Int32}  (h : ((6 ≤ x2 → Q [.inl x1] σ) ∧ (¬ (6 ≤ x2) → (∃ j1 : Nat, x2 = nI j1 ∧ j1 < 6 ∧ (∃ j2 : Nat, x2 = nI j2 ∧ j2 < 6 ∧ Ev S d 55 4 [some (.inr (some 4)), some (.inl (x1 + ((σ 23 j1) * (σ 23 j2)))), some (.inl (x2 + 1))] [] σ Q))))) : Ev S d 55 4 [some (.inr (some 4)), some (.inl x1), some (.inl x2)] [] σ Q := by
  refine e_load q_55 rfl rfl rfl ?_
  refine e_push q_55 rfl ?_
  refine e_icmp (P := 6 ≤ x2) q_55 rfl m_c3 (fun c => ?_) (fun c => ?_)
  · replace h := h.1 c
    refine e_load q_55 rfl rfl rfl ?_
    exact e_ireturn q_55 rfl rfl h
  · replace h := h.2 c
    refine e_load q_55 rfl rfl rfl ?_
    refine e_load q_55 rfl rfl rfl ?_
    refine e_getR q_55 rfl rfl rfl ?_
    refine e_load q_55 rfl rfl rfl ?_
    obtain ⟨j1, hjj1, hlj1, h⟩ := h
    refine e_iald q_55 rfl rfl (by decide) hjj1 hlj1 ?_
    refine e_load q_55 rfl rfl rfl ?_
    refine e_getR q_55 rfl rfl rfl ?_
    refine e_load q_55 rfl rfl rfl ?_
    obtain ⟨j2, hjj2, hlj2, h⟩ := h
    refine e_iald q_55 rfl rfl (by decide) hjj2 hlj2 ?_
    refine e_bin (r := (σ 23 j1) * (σ 23 j2)) q_55 rfl rfl ?_
    refine e_bin (r := x1 + ((σ 23 j1) * (σ 23 j2))) q_55 rfl rfl ?_
    refine e_store (ls' := [some (.inr (some 4)), some (.inl (x1 + ((σ 23 j1) * (σ 23 j2)))), some (.inl x2)]) q_55 rfl (Nat.le_of_ble_eq_true rfl) rfl rfl ?_
    refine e_iinc (ls' := [some (.inr (some 4)), some (.inl (x1 + ((σ 23 j1) * (σ 23 j2)))), some (.inl (x2 + 1))]) q_55 rfl rfl rfl ?_
    refine e_goto q_55 rfl ?_
    exact h
theorem g_56_0 {S : Nat × (Nat → Int32)} {d : Nat} {σ : Mem} {Q : MQ1} {x1 : Int32} {x2 : Int32} {x3 : Int32}  (h : ((x1 < (σ 4 6) → (∃ j1 r2 r2f r2s r2m : Nat, x1 = nI j1 ∧ ([6, 10, 14, 18] : List Nat)[j1]? = some r2 ∧ isPl r2 r2f r2s r2m ∧ Ec S (d + 1) 61 [.inr (some 4), .inl x1] σ (fun rv σ' => Ev S (d + 2) 56 17 [some (.inr (some 4)), some (.inl x1), some (.inl x2), some (.inl x3), some (.inr (some r2)), none, none, none, none] (rv ++ []) σ' Q))) ∧ (¬ (x1 < (σ 4 6)) → Ec S (d + 1) 64 [.inr (some 4), .inl x2, .inl x3] σ (fun rv σ' => Ev S (d + 2) 56 8 [some (.inr (some 4)), some (.inl x1), some (.inl x2), some (.inl x3), none, none, none, none, none] (rv ++ []) σ' Q)))) : Ev S (d + 2) 56 0 [some (.inr (some 4)), some (.inl x1), some (.inl x2), some (.inl x3), none, none, none, none, none] [] σ Q := by
  refine e_load q_56 rfl rfl rfl ?_
  refine e_load q_56 rfl rfl rfl ?_
  refine e_getI q_56 rfl rfl rfl ?_
  refine e_icmp (P := x1 < (σ 4 6)) q_56 rfl m_c2 (fun c => ?_) (fun c => ?_)
  · replace h := h.1 c
    refine e_load q_56 rfl rfl rfl ?_
    refine e_getR q_56 rfl rfl rfl ?_
    refine e_load q_56 rfl rfl rfl ?_
    obtain ⟨j1, r2, r2f, r2s, r2m, hjj1, hlj1, hr2, h⟩ := h
    refine e_aald q_56 rfl rfl (by decide) hjj1 hlj1 (by have := (List.getElem?_eq_some_iff.mp hlj1).1; simp at this; omega) ?_
    refine e_store (ls' := [some (.inr (some 4)), some (.inl x1), some (.inl x2), some (.inl x3), some (.inr (some r2)), none, none, none, none]) q_56 rfl (Nat.le_of_ble_eq_true rfl) rfl rfl ?_
    refine e_load q_56 rfl rfl rfl ?_
    refine e_load q_56 rfl rfl rfl ?_
    exact e_virt q_56 rfl rfl (Nat.le_of_ble_eq_true rfl) rfl rfl (Nat.le_of_ble_eq_true rfl) rfl h
  · replace h := h.2 c
    refine e_load q_56 rfl rfl rfl ?_
    refine e_load q_56 rfl rfl rfl ?_
    refine e_load q_56 rfl rfl rfl ?_
    exact e_virt q_56 rfl rfl (Nat.le_of_ble_eq_true rfl) rfl rfl (Nat.le_of_ble_eq_true rfl) rfl h
theorem g_56_17 {S : Nat × (Nat → Int32)} {d : Nat} {σ : Mem} {Q : MQ1} {x1 : Int32} {x2 : Int32} {x3 : Int32} {p4 p4f p4s p4m : Nat} {o5 : Option MV} {o6 : Option MV} {o7 : Option MV} {o8 : Option MV} {y0 : Int32} (hp4 : isPl p4 p4f p4s p4m) (h : Ec S (d + 1) 62 [.inr (some 4), .inl x1] σ (fun rv σ' => Ev S (d + 2) 56 21 [some (.inr (some 4)), some (.inl x1), some (.inl x2), some (.inl x3), some (.inr (some p4)), some (.inl y0), o6, o7, o8] (rv ++ []) σ' Q)) : Ev S (d + 2) 56 17 [some (.inr (some 4)), some (.inl x1), some (.inl x2), some (.inl x3), some (.inr (some p4)), o5, o6, o7, o8] [.inl y0] σ Q := by
  refine e_store (ls' := [some (.inr (some 4)), some (.inl x1), some (.inl x2), some (.inl x3), some (.inr (some p4)), some (.inl y0), o6, o7, o8]) q_56 rfl (Nat.le_of_ble_eq_true rfl) rfl rfl ?_
  refine e_load q_56 rfl rfl rfl ?_
  refine e_load q_56 rfl rfl rfl ?_
  exact e_virt q_56 rfl rfl (Nat.le_of_ble_eq_true rfl) rfl rfl (Nat.le_of_ble_eq_true rfl) rfl h
theorem g_56_8 {S : Nat × (Nat → Int32)} {d : Nat} {σ : Mem} {Q : MQ1} {o0 : Option MV} {o1 : Option MV} {o2 : Option MV} {o3 : Option MV} {o4 : Option MV} {o5 : Option MV} {o6 : Option MV} {o7 : Option MV} {o8 : Option MV}  (h : Q [] σ) : Ev S (d + 2) 56 8 [o0, o1, o2, o3, o4, o5, o6, o7, o8] [] σ Q := by
  exact e_return q_56 rfl rfl h
theorem g_56_21 {S : Nat × (Nat → Int32)} {d : Nat} {σ : Mem} {Q : MQ1} {x1 : Int32} {x2 : Int32} {x3 : Int32} {p4 p4f p4s p4m : Nat} {x5 : Int32} {o6 : Option MV} {o7 : Option MV} {o8 : Option MV} {y0 : Int32} (hp4 : isPl p4 p4f p4s p4m) (h : Ev S (d + 2) 56 24 [some (.inr (some 4)), some (.inl x1), some (.inl x2), some (.inl x3), some (.inr (some p4)), some (.inl x5), some (.inl y0), some (.inl 0), o8] [] σ Q) : Ev S (d + 2) 56 21 [some (.inr (some 4)), some (.inl x1), some (.inl x2), some (.inl x3), some (.inr (some p4)), some (.inl x5), o6, o7, o8] [.inl y0] σ Q := by
  refine e_store (ls' := [some (.inr (some 4)), some (.inl x1), some (.inl x2), some (.inl x3), some (.inr (some p4)), some (.inl x5), some (.inl y0), o7, o8]) q_56 rfl (Nat.le_of_ble_eq_true rfl) rfl rfl ?_
  refine e_push q_56 rfl ?_
  refine e_store (ls' := [some (.inr (some 4)), some (.inl x1), some (.inl x2), some (.inl x3), some (.inr (some p4)), some (.inl x5), some (.inl y0), some (.inl 0), o8]) q_56 rfl (Nat.le_of_ble_eq_true rfl) rfl rfl ?_
  exact h
theorem g_56_24 {S : Nat × (Nat → Int32)} {d : Nat} {σ : Mem} {Q : MQ1} {x1 : Int32} {x2 : Int32} {x3 : Int32} {p4 p4f p4s p4m : Nat} {x5 : Int32} {x6 : Int32} {x7 : Int32} {o8 : Option MV} (hp4 : isPl p4 p4f p4s p4m) (h : (((σ p4 3) ≤ x7 → Q [] σ) ∧ (¬ ((σ p4 3) ≤ x7) → (∃ j1 : Nat, x7 = nI j1 ∧ j1 < 42 ∧ (((σ p4f j1) < x5 → Ev S (d + 2) 56 24 [some (.inr (some 4)), some (.inl x1), some (.inl x2), some (.inl x3), some (.inr (some p4)), some (.inl x5), some (.inl x6), some (.inl (x7 + 1)), some (.inl (σ p4f j1))] [] σ Q) ∧ (¬ ((σ p4f j1) < x5) → ((x6 < (σ p4f j1) → Ev S (d + 2) 56 24 [some (.inr (some 4)), some (.inl x1), some (.inl x2), some (.inl x3), some (.inr (some p4)), some (.inl x5), some (.inl x6), some (.inl (x7 + 1)), some (.inl (σ p4f j1))] [] σ Q) ∧ (¬ (x6 < (σ p4f j1)) → (∃ j2 : Nat, x7 = nI j2 ∧ j2 < 42 ∧ Ec S (d + 1) 60 [.inr (some 4), .inl (σ p4 5), .inl (σ p4f j1), .inl (σ p4s j2)] σ (fun rv σ' => Ev S (d + 2) 56 48 [some (.inr (some 4)), some (.inl x1), some (.inl x2), some (.inl x3), some (.inr (some p4)), some (.inl x5), some (.inl x6), some (.inl x7), some (.inl (σ p4f j1))] (rv ++ []) σ' Q)))))))))) : Ev S (d + 2) 56 24 [some (.inr (some 4)), some (.inl x1), some (.inl x2), some (.inl x3), some (.inr (some p4)), some (.inl x5), some (.inl x6), some (.inl x7), o8] [] σ Q := by
  refine e_load q_56 rfl rfl rfl ?_
  refine e_load q_56 rfl rfl rfl ?_
  refine e_getI q_56 rfl hp4.1 rfl ?_
  refine e_icmp (P := (σ p4 3) ≤ x7) q_56 rfl m_c3 (fun c => ?_) (fun c => ?_)
  · replace h := h.1 c
    exact e_return q_56 rfl rfl h
  · replace h := h.2 c
    refine e_load q_56 rfl rfl rfl ?_
    refine e_getR q_56 rfl hp4.1 rfl ?_
    refine e_load q_56 rfl rfl rfl ?_
    obtain ⟨j1, hjj1, hlj1, h⟩ := h
    refine e_iald q_56 rfl hp4.2.1 (by decide) hjj1 hlj1 ?_
    refine e_store (ls' := [some (.inr (some 4)), some (.inl x1), some (.inl x2), some (.inl x3), some (.inr (some p4)), some (.inl x5), some (.inl x6), some (.inl x7), some (.inl (σ p4f j1))]) q_56 rfl (Nat.le_of_ble_eq_true rfl) rfl rfl ?_
    refine e_load q_56 rfl rfl rfl ?_
    refine e_load q_56 rfl rfl rfl ?_
    refine e_icmp (P := (σ p4f j1) < x5) q_56 rfl m_c2 (fun c => ?_) (fun c => ?_)
    · replace h := h.1 c
      refine e_iinc (ls' := [some (.inr (some 4)), some (.inl x1), some (.inl x2), some (.inl x3), some (.inr (some p4)), some (.inl x5), some (.inl x6), some (.inl (x7 + 1)), some (.inl (σ p4f j1))]) q_56 rfl rfl rfl ?_
      refine e_goto q_56 rfl ?_
      exact h
    · replace h := h.2 c
      refine e_load q_56 rfl rfl rfl ?_
      refine e_load q_56 rfl rfl rfl ?_
      refine e_icmp (P := x6 < (σ p4f j1)) q_56 rfl m_c4 (fun c => ?_) (fun c => ?_)
      · replace h := h.1 c
        refine e_iinc (ls' := [some (.inr (some 4)), some (.inl x1), some (.inl x2), some (.inl x3), some (.inr (some p4)), some (.inl x5), some (.inl x6), some (.inl (x7 + 1)), some (.inl (σ p4f j1))]) q_56 rfl rfl rfl ?_
        refine e_goto q_56 rfl ?_
        exact h
      · replace h := h.2 c
        refine e_load q_56 rfl rfl rfl ?_
        refine e_load q_56 rfl rfl rfl ?_
        refine e_getI q_56 rfl hp4.1 rfl ?_
        refine e_load q_56 rfl rfl rfl ?_
        refine e_load q_56 rfl rfl rfl ?_
        refine e_getR q_56 rfl hp4.1 rfl ?_
        refine e_load q_56 rfl rfl rfl ?_
        obtain ⟨j2, hjj2, hlj2, h⟩ := h
        refine e_iald q_56 rfl hp4.2.2.1 (by decide) hjj2 hlj2 ?_
        exact e_virt q_56 rfl rfl (Nat.le_of_ble_eq_true rfl) rfl rfl (Nat.le_of_ble_eq_true rfl) rfl h
theorem g_56_48 {S : Nat × (Nat → Int32)} {d : Nat} {σ : Mem} {Q : MQ1} {x1 : Int32} {x2 : Int32} {x3 : Int32} {p4 p4f p4s p4m : Nat} {x5 : Int32} {x6 : Int32} {x7 : Int32} {o8 : Option MV} {y0 : Int32} (hp4 : isPl p4 p4f p4s p4m) (h : ((y0 = 0 → Ev S (d + 2) 56 24 [some (.inr (some 4)), some (.inl x1), some (.inl x2), some (.inl x3), some (.inr (some p4)), some (.inl x5), some (.inl x6), some (.inl (x7 + 1)), o8] [] σ Q) ∧ (¬ (y0 = 0) → Ec S (d + 1) 43 [.inr (some p4), .inl x7] σ (fun rv σ' => Ev S (d + 2) 56 52 [some (.inr (some 4)), some (.inl x1), some (.inl x2), some (.inl x3), some (.inr (some p4)), some (.inl x5), some (.inl x6), some (.inl x7), o8] (rv ++ []) σ' Q)))) : Ev S (d + 2) 56 48 [some (.inr (some 4)), some (.inl x1), some (.inl x2), some (.inl x3), some (.inr (some p4)), some (.inl x5), some (.inl x6), some (.inl x7), o8] [.inl y0] σ Q := by
  refine e_if (P := y0 = 0) q_56 rfl m_c0 (fun c => ?_) (fun c => ?_)
  · replace h := h.1 c
    refine e_iinc (ls' := [some (.inr (some 4)), some (.inl x1), some (.inl x2), some (.inl x3), some (.inr (some p4)), some (.inl x5), some (.inl x6), some (.inl (x7 + 1)), o8]) q_56 rfl rfl rfl ?_
    refine e_goto q_56 rfl ?_
    exact h
  · replace h := h.2 c
    refine e_load q_56 rfl rfl rfl ?_
    refine e_load q_56 rfl rfl rfl ?_
    exact e_virt q_56 rfl rfl (Nat.le_of_ble_eq_true rfl) rfl rfl (Nat.le_of_ble_eq_true rfl) hp4.1 h
theorem g_56_52 {S : Nat × (Nat → Int32)} {d : Nat} {σ : Mem} {Q : MQ1} {x1 : Int32} {x2 : Int32} {x3 : Int32} {p4 p4f p4s p4m : Nat} {x5 : Int32} {x6 : Int32} {x7 : Int32} {o8 : Option MV} (hp4 : isPl p4 p4f p4s p4m) (h : (∃ j1 : Nat, x7 = nI j1 ∧ j1 < 42 ∧ Ec S (d + 1) 57 [.inr (some 4), .inl x1, .inl (x2 + (σ p4m j1)), .inl x3] σ (fun rv σ' => Ev S (d + 2) 56 62 [some (.inr (some 4)), some (.inl x1), some (.inl x2), some (.inl x3), some (.inr (some p4)), some (.inl x5), some (.inl x6), some (.inl x7), o8] (rv ++ []) σ' Q))) : Ev S (d + 2) 56 52 [some (.inr (some 4)), some (.inl x1), some (.inl x2), some (.inl x3), some (.inr (some p4)), some (.inl x5), some (.inl x6), some (.inl x7), o8] [] σ Q := by
  refine e_load q_56 rfl rfl rfl ?_
  refine e_load q_56 rfl rfl rfl ?_
  refine e_load q_56 rfl rfl rfl ?_
  refine e_load q_56 rfl rfl rfl ?_
  refine e_getR q_56 rfl hp4.1 rfl ?_
  refine e_load q_56 rfl rfl rfl ?_
  obtain ⟨j1, hjj1, hlj1, h⟩ := h
  refine e_iald q_56 rfl hp4.2.2.2 (by decide) hjj1 hlj1 ?_
  refine e_bin (r := x2 + (σ p4m j1)) q_56 rfl rfl ?_
  refine e_load q_56 rfl rfl rfl ?_
  exact e_virt q_56 rfl rfl (Nat.le_of_ble_eq_true rfl) rfl rfl (Nat.le_of_ble_eq_true rfl) rfl h
theorem g_56_62 {S : Nat × (Nat → Int32)} {d : Nat} {σ : Mem} {Q : MQ1} {x1 : Int32} {x2 : Int32} {x3 : Int32} {p4 p4f p4s p4m : Nat} {x5 : Int32} {x6 : Int32} {x7 : Int32} {o8 : Option MV} (hp4 : isPl p4 p4f p4s p4m) (h : Ev S (d + 2) 56 24 [some (.inr (some 4)), some (.inl x1), some (.inl x2), some (.inl x3), some (.inr (some p4)), some (.inl x5), some (.inl x6), some (.inl (x7 + 1)), o8] [] σ Q) : Ev S (d + 2) 56 62 [some (.inr (some 4)), some (.inl x1), some (.inl x2), some (.inl x3), some (.inr (some p4)), some (.inl x5), some (.inl x6), some (.inl x7), o8] [] σ Q := by
  refine e_iinc (ls' := [some (.inr (some 4)), some (.inl x1), some (.inl x2), some (.inl x3), some (.inr (some p4)), some (.inl x5), some (.inl x6), some (.inl (x7 + 1)), o8]) q_56 rfl rfl rfl ?_
  refine e_goto q_56 rfl ?_
  exact h
theorem g_57_0 {S : Nat × (Nat → Int32)} {d : Nat} {σ : Mem} {Q : MQ1} {x1 : Int32} {x2 : Int32} {x3 : Int32}  (h : (∃ j1 r2 r2f r2s r2m : Nat, x1 = nI j1 ∧ ([6, 10, 14, 18] : List Nat)[j1]? = some r2 ∧ isPl r2 r2f r2s r2m ∧ Ec S d 58 [.inr (some 4), .inl (σ r2 8), .inl (σ r2 5)] σ (fun rv σ' => Ev S (d + 1) 57 12 [some (.inr (some 4)), some (.inl x1), some (.inl x2), some (.inl x3), some (.inr (some r2)), none] (rv ++ [.inl x3]) σ' Q))) : Ev S (d + 1) 57 0 [some (.inr (some 4)), some (.inl x1), some (.inl x2), some (.inl x3), none, none] [] σ Q := by
  refine e_load q_57 rfl rfl rfl ?_
  refine e_getR q_57 rfl rfl rfl ?_
  refine e_load q_57 rfl rfl rfl ?_
  obtain ⟨j1, r2, r2f, r2s, r2m, hjj1, hlj1, hr2, h⟩ := h
  refine e_aald q_57 rfl rfl (by decide) hjj1 hlj1 (by have := (List.getElem?_eq_some_iff.mp hlj1).1; simp at this; omega) ?_
  refine e_store (ls' := [some (.inr (some 4)), some (.inl x1), some (.inl x2), some (.inl x3), some (.inr (some r2)), none]) q_57 rfl (Nat.le_of_ble_eq_true rfl) rfl rfl ?_
  refine e_load q_57 rfl rfl rfl ?_
  refine e_load q_57 rfl rfl rfl ?_
  refine e_load q_57 rfl rfl rfl ?_
  refine e_getI q_57 rfl hr2.1 rfl ?_
  refine e_load q_57 rfl rfl rfl ?_
  refine e_getI q_57 rfl hr2.1 rfl ?_
  exact e_virt q_57 rfl rfl (Nat.le_of_ble_eq_true rfl) rfl rfl (Nat.le_of_ble_eq_true rfl) rfl h
theorem g_57_12 {S : Nat × (Nat → Int32)} {d : Nat} {σ : Mem} {Q : MQ1} {x1 : Int32} {x2 : Int32} {o3 : Option MV} {p4 p4f p4s p4m : Nat} {o5 : Option MV} {y0 : Int32} {y1 : Int32} (hp4 : isPl p4 p4f p4s p4m) (h : Ec S d 58 [.inr (some 4), .inl (σ p4 9), .inl 1] σ (fun rv σ' => Ev S (d + 1) 57 18 [some (.inr (some 4)), some (.inl x1), some (.inl x2), o3, some (.inr (some p4)), o5] (rv ++ [.inl (y0 + y1)]) σ' Q)) : Ev S (d + 1) 57 12 [some (.inr (some 4)), some (.inl x1), some (.inl x2), o3, some (.inr (some p4)), o5] [.inl y1, .inl y0] σ Q := by
  refine e_bin (r := y0 + y1) q_57 rfl rfl ?_
  refine e_load q_57 rfl rfl rfl ?_
  refine e_load q_57 rfl rfl rfl ?_
  refine e_getI q_57 rfl hp4.1 rfl ?_
  refine e_push q_57 rfl ?_
  exact e_virt q_57 rfl rfl (Nat.le_of_ble_eq_true rfl) rfl rfl (Nat.le_of_ble_eq_true rfl) rfl h
theorem g_57_18 {S : Nat × (Nat → Int32)} {d : Nat} {σ : Mem} {Q : MQ1} {x1 : Int32} {x2 : Int32} {o3 : Option MV} {p4 p4f p4s p4m : Nat} {o5 : Option MV} {y0 : Int32} {y1 : Int32} (hp4 : isPl p4 p4f p4s p4m) (h : Ec S d 63 [.inr (some 4), .inl x2, .inl (y0 + y1)] σ (fun rv σ' => Ev S (d + 1) 57 24 [some (.inr (some 4)), some (.inl x1), some (.inl x2), o3, some (.inr (some p4)), some (.inl (y0 + y1))] (rv ++ []) σ' Q)) : Ev S (d + 1) 57 18 [some (.inr (some 4)), some (.inl x1), some (.inl x2), o3, some (.inr (some p4)), o5] [.inl y1, .inl y0] σ Q := by
  refine e_bin (r := y0 + y1) q_57 rfl rfl ?_
  refine e_store (ls' := [some (.inr (some 4)), some (.inl x1), some (.inl x2), o3, some (.inr (some p4)), some (.inl (y0 + y1))]) q_57 rfl (Nat.le_of_ble_eq_true rfl) rfl rfl ?_
  refine e_load q_57 rfl rfl rfl ?_
  refine e_load q_57 rfl rfl rfl ?_
  refine e_load q_57 rfl rfl rfl ?_
  exact e_virt q_57 rfl rfl (Nat.le_of_ble_eq_true rfl) rfl rfl (Nat.le_of_ble_eq_true rfl) rfl h
theorem g_57_24 {S : Nat × (Nat → Int32)} {d : Nat} {σ : Mem} {Q : MQ1} {x1 : Int32} {x2 : Int32} {o3 : Option MV} {p4 p4f p4s p4m : Nat} {x5 : Int32} {y0 : Int32} (hp4 : isPl p4 p4f p4s p4m) (h : ((y0 = 0 → Q [] σ) ∧ (¬ (y0 = 0) → Ec S d 59 [.inr (some 4), .inl (σ p4 8), .inl (σ p4 5)] σ (fun rv σ' => Ev S (d + 1) 57 31 [some (.inr (some 4)), some (.inl x1), some (.inl x2), o3, some (.inr (some p4)), some (.inl x5)] (rv ++ []) σ' Q)))) : Ev S (d + 1) 57 24 [some (.inr (some 4)), some (.inl x1), some (.inl x2), o3, some (.inr (some p4)), some (.inl x5)] [.inl y0] σ Q := by
  refine e_if (P := y0 = 0) q_57 rfl m_c0 (fun c => ?_) (fun c => ?_)
  · replace h := h.1 c
    exact e_return q_57 rfl rfl h
  · replace h := h.2 c
    refine e_load q_57 rfl rfl rfl ?_
    refine e_load q_57 rfl rfl rfl ?_
    refine e_getI q_57 rfl hp4.1 rfl ?_
    refine e_load q_57 rfl rfl rfl ?_
    refine e_getI q_57 rfl hp4.1 rfl ?_
    exact e_virt q_57 rfl rfl (Nat.le_of_ble_eq_true rfl) rfl rfl (Nat.le_of_ble_eq_true rfl) rfl h
theorem g_57_31 {S : Nat × (Nat → Int32)} {d : Nat} {σ : Mem} {Q : MQ1} {x1 : Int32} {x2 : Int32} {o3 : Option MV} {p4 p4f p4s p4m : Nat} {x5 : Int32} (hp4 : isPl p4 p4f p4s p4m) (h : Ec S d 59 [.inr (some 4), .inl (σ p4 9), .inl 1] σ (fun rv σ' => Ev S (d + 1) 57 36 [some (.inr (some 4)), some (.inl x1), some (.inl x2), o3, some (.inr (some p4)), some (.inl x5)] (rv ++ []) σ' Q)) : Ev S (d + 1) 57 31 [some (.inr (some 4)), some (.inl x1), some (.inl x2), o3, some (.inr (some p4)), some (.inl x5)] [] σ Q := by
  refine e_load q_57 rfl rfl rfl ?_
  refine e_load q_57 rfl rfl rfl ?_
  refine e_getI q_57 rfl hp4.1 rfl ?_
  refine e_push q_57 rfl ?_
  exact e_virt q_57 rfl rfl (Nat.le_of_ble_eq_true rfl) rfl rfl (Nat.le_of_ble_eq_true rfl) rfl h
theorem g_57_36 {S : Nat × (Nat → Int32)} {d : Nat} {σ : Mem} {Q : MQ1} {x1 : Int32} {x2 : Int32} {o3 : Option MV} {p4 p4f p4s p4m : Nat} {x5 : Int32} (hp4 : isPl p4 p4f p4s p4m) (h : Ec S d 56 [.inr (some 4), .inl (x1 + 1), .inl x2, .inl x5] σ (fun rv σ' => Ev S (d + 1) 57 43 [some (.inr (some 4)), some (.inl x1), some (.inl x2), o3, some (.inr (some p4)), some (.inl x5)] (rv ++ []) σ' Q)) : Ev S (d + 1) 57 36 [some (.inr (some 4)), some (.inl x1), some (.inl x2), o3, some (.inr (some p4)), some (.inl x5)] [] σ Q := by
  refine e_load q_57 rfl rfl rfl ?_
  refine e_load q_57 rfl rfl rfl ?_
  refine e_push q_57 rfl ?_
  refine e_bin (r := x1 + 1) q_57 rfl rfl ?_
  refine e_load q_57 rfl rfl rfl ?_
  refine e_load q_57 rfl rfl rfl ?_
  exact e_virt q_57 rfl rfl (Nat.le_of_ble_eq_true rfl) rfl rfl (Nat.le_of_ble_eq_true rfl) rfl h
theorem g_57_43 {S : Nat × (Nat → Int32)} {d : Nat} {σ : Mem} {Q : MQ1} {o1 : Option MV} {o2 : Option MV} {o3 : Option MV} {p4 p4f p4s p4m : Nat} {o5 : Option MV} (hp4 : isPl p4 p4f p4s p4m) (h : Ec S d 59 [.inr (some 4), .inl (σ p4 8), .inl (-(σ p4 5))] σ (fun rv σ' => Ev S (d + 1) 57 50 [some (.inr (some 4)), o1, o2, o3, some (.inr (some p4)), o5] (rv ++ []) σ' Q)) : Ev S (d + 1) 57 43 [some (.inr (some 4)), o1, o2, o3, some (.inr (some p4)), o5] [] σ Q := by
  refine e_load q_57 rfl rfl rfl ?_
  refine e_load q_57 rfl rfl rfl ?_
  refine e_getI q_57 rfl hp4.1 rfl ?_
  refine e_load q_57 rfl rfl rfl ?_
  refine e_getI q_57 rfl hp4.1 rfl ?_
  refine e_un (r := -(σ p4 5)) q_57 rfl rfl ?_
  exact e_virt q_57 rfl rfl (Nat.le_of_ble_eq_true rfl) rfl rfl (Nat.le_of_ble_eq_true rfl) rfl h
theorem g_57_50 {S : Nat × (Nat → Int32)} {d : Nat} {σ : Mem} {Q : MQ1} {o1 : Option MV} {o2 : Option MV} {o3 : Option MV} {p4 p4f p4s p4m : Nat} {o5 : Option MV} (hp4 : isPl p4 p4f p4s p4m) (h : Ec S d 59 [.inr (some 4), .inl (σ p4 9), .inl (-1)] σ (fun rv σ' => Ev S (d + 1) 57 55 [some (.inr (some 4)), o1, o2, o3, some (.inr (some p4)), o5] (rv ++ []) σ' Q)) : Ev S (d + 1) 57 50 [some (.inr (some 4)), o1, o2, o3, some (.inr (some p4)), o5] [] σ Q := by
  refine e_load q_57 rfl rfl rfl ?_
  refine e_load q_57 rfl rfl rfl ?_
  refine e_getI q_57 rfl hp4.1 rfl ?_
  refine e_push q_57 rfl ?_
  exact e_virt q_57 rfl rfl (Nat.le_of_ble_eq_true rfl) rfl rfl (Nat.le_of_ble_eq_true rfl) rfl h
theorem g_57_55 {S : Nat × (Nat → Int32)} {d : Nat} {σ : Mem} {Q : MQ1} {o0 : Option MV} {o1 : Option MV} {o2 : Option MV} {o3 : Option MV} {o4 : Option MV} {o5 : Option MV}  (h : Q [] σ) : Ev S (d + 1) 57 55 [o0, o1, o2, o3, o4, o5] [] σ Q := by
  exact e_return q_57 rfl rfl h
theorem g_58_0 {S : Nat × (Nat → Int32)} {d : Nat} {σ : Mem} {Q : MQ1} {x1 : Int32} {x2 : Int32}  (h : (((¬ x1 = (-1)) → (∃ j1 : Nat, x1 = nI j1 ∧ j1 < 6 ∧ Q [.inl (x2 * ((2 * (σ 23 j1)) + x2))] σ)) ∧ (¬ (¬ x1 = (-1)) → Q [.inl 0] σ))) : Ev S d 58 0 [some (.inr (some 4)), some (.inl x1), some (.inl x2)] [] σ Q := by
  refine e_load q_58 rfl rfl rfl ?_
  refine e_push q_58 rfl ?_
  refine e_icmp (P := ¬ x1 = (-1)) q_58 rfl m_c1 (fun c => ?_) (fun c => ?_)
  · replace h := h.1 c
    refine e_load q_58 rfl rfl rfl ?_
    refine e_push q_58 rfl ?_
    refine e_load q_58 rfl rfl rfl ?_
    refine e_getR q_58 rfl rfl rfl ?_
    refine e_load q_58 rfl rfl rfl ?_
    obtain ⟨j1, hjj1, hlj1, h⟩ := h
    refine e_iald q_58 rfl rfl (by decide) hjj1 hlj1 ?_
    refine e_bin (r := 2 * (σ 23 j1)) q_58 rfl rfl ?_
    refine e_load q_58 rfl rfl rfl ?_
    refine e_bin (r := (2 * (σ 23 j1)) + x2) q_58 rfl rfl ?_
    refine e_bin (r := x2 * ((2 * (σ 23 j1)) + x2)) q_58 rfl rfl ?_
    exact e_ireturn q_58 rfl rfl h
  · replace h := h.2 c
    refine e_push q_58 rfl ?_
    refine e_goto q_58 rfl ?_
    exact e_ireturn q_58 rfl rfl h
theorem g_59_0 {S : Nat × (Nat → Int32)} {d : Nat} {σ : Mem} {Q : MQ1} {x1 : Int32} {x2 : Int32}  (h : ((x1 = (-1) → Q [] σ) ∧ (¬ (x1 = (-1)) → (∃ j1 : Nat, x1 = nI j1 ∧ j1 < 6 ∧ (∃ j2 : Nat, x1 = nI j2 ∧ j2 < 6 ∧ Q [] (up σ 23 j2 ((σ 23 j1) + x2))))))) : Ev S d 59 0 [some (.inr (some 4)), some (.inl x1), some (.inl x2)] [] σ Q := by
  refine e_load q_59 rfl rfl rfl ?_
  refine e_push q_59 rfl ?_
  refine e_icmp (P := x1 = (-1)) q_59 rfl m_c0 (fun c => ?_) (fun c => ?_)
  · replace h := h.1 c
    exact e_return q_59 rfl rfl h
  · replace h := h.2 c
    refine e_load q_59 rfl rfl rfl ?_
    refine e_getR q_59 rfl rfl rfl ?_
    refine e_load q_59 rfl rfl rfl ?_
    refine e_dup2 q_59 rfl ?_
    obtain ⟨j1, hjj1, hlj1, h⟩ := h
    refine e_iald q_59 rfl rfl (by decide) hjj1 hlj1 ?_
    refine e_load q_59 rfl rfl rfl ?_
    refine e_bin (r := (σ 23 j1) + x2) q_59 rfl rfl ?_
    obtain ⟨j2, hjj2, hlj2, h⟩ := h
    refine e_iast q_59 rfl rfl (by decide) hjj2 hlj2 ?_
    exact e_return q_59 rfl rfl h
theorem g_60_0 {S : Nat × (Nat → Int32)} {d : Nat} {σ : Mem} {Q : MQ1} {x1 : Int32} {x2 : Int32} {x3 : Int32}  (h : (∃ j1 : Nat, x2 = nI j1 ∧ j1 < 6 ∧ (∃ j2 : Nat, x2 = nI j2 ∧ j2 < 6 ∧ (((σ 22 j2) < ((σ 23 j1) + x1) → Q [.inl 0] σ) ∧ (¬ ((σ 22 j2) < ((σ 23 j1) + x1)) → ((x3 = (-1) → Q [.inl 1] σ) ∧ (¬ (x3 = (-1)) → (∃ j3 : Nat, x3 = nI j3 ∧ j3 < 6 ∧ (∃ j4 : Nat, x3 = nI j4 ∧ j4 < 6 ∧ (((σ 22 j4) ≤ (σ 23 j3) → Q [.inl 0] σ) ∧ (¬ ((σ 22 j4) ≤ (σ 23 j3)) → Q [.inl 1] σ))))))))))) : Ev S d 60 0 [some (.inr (some 4)), some (.inl x1), some (.inl x2), some (.inl x3)] [] σ Q := by
  refine e_load q_60 rfl rfl rfl ?_
  refine e_getR q_60 rfl rfl rfl ?_
  refine e_load q_60 rfl rfl rfl ?_
  obtain ⟨j1, hjj1, hlj1, h⟩ := h
  refine e_iald q_60 rfl rfl (by decide) hjj1 hlj1 ?_
  refine e_load q_60 rfl rfl rfl ?_
  refine e_bin (r := (σ 23 j1) + x1) q_60 rfl rfl ?_
  refine e_load q_60 rfl rfl rfl ?_
  refine e_getR q_60 rfl rfl rfl ?_
  refine e_load q_60 rfl rfl rfl ?_
  obtain ⟨j2, hjj2, hlj2, h⟩ := h
  refine e_iald q_60 rfl rfl (by decide) hjj2 hlj2 ?_
  refine e_icmp (P := (σ 22 j2) < ((σ 23 j1) + x1)) q_60 rfl m_c4 (fun c => ?_) (fun c => ?_)
  · replace h := h.1 c
    refine e_push q_60 rfl ?_
    exact e_zreturn q_60 rfl rfl (by decide) h
  · replace h := h.2 c
    refine e_load q_60 rfl rfl rfl ?_
    refine e_push q_60 rfl ?_
    refine e_icmp (P := x3 = (-1)) q_60 rfl m_c0 (fun c => ?_) (fun c => ?_)
    · replace h := h.1 c
      refine e_push q_60 rfl ?_
      refine e_goto q_60 rfl ?_
      exact e_zreturn q_60 rfl rfl (by decide) h
    · replace h := h.2 c
      refine e_load q_60 rfl rfl rfl ?_
      refine e_getR q_60 rfl rfl rfl ?_
      refine e_load q_60 rfl rfl rfl ?_
      obtain ⟨j3, hjj3, hlj3, h⟩ := h
      refine e_iald q_60 rfl rfl (by decide) hjj3 hlj3 ?_
      refine e_load q_60 rfl rfl rfl ?_
      refine e_getR q_60 rfl rfl rfl ?_
      refine e_load q_60 rfl rfl rfl ?_
      obtain ⟨j4, hjj4, hlj4, h⟩ := h
      refine e_iald q_60 rfl rfl (by decide) hjj4 hlj4 ?_
      refine e_icmp (P := (σ 22 j4) ≤ (σ 23 j3)) q_60 rfl m_c3 (fun c => ?_) (fun c => ?_)
      · replace h := h.1 c
        refine e_push q_60 rfl ?_
        exact e_zreturn q_60 rfl rfl (by decide) h
      · replace h := h.2 c
        refine e_push q_60 rfl ?_
        refine e_goto q_60 rfl ?_
        exact e_zreturn q_60 rfl rfl (by decide) h
theorem g_61_0 {S : Nat × (Nat → Int32)} {d : Nat} {σ : Mem} {Q : MQ1} {x1 : Int32}  (h : (∃ j1 r2 r2f r2s r2m : Nat, x1 = nI j1 ∧ ([6, 10, 14, 18] : List Nat)[j1]? = some r2 ∧ isPl r2 r2f r2s r2m ∧ Ev S (d + 1) 61 9 [some (.inr (some 4)), some (.inl x1), some (.inr (some r2)), some (.inl 0), some (.inl 0), none] [] σ Q)) : Ev S (d + 1) 61 0 [some (.inr (some 4)), some (.inl x1), none, none, none, none] [] σ Q := by
  refine e_load q_61 rfl rfl rfl ?_
  refine e_getR q_61 rfl rfl rfl ?_
  refine e_load q_61 rfl rfl rfl ?_
  obtain ⟨j1, r2, r2f, r2s, r2m, hjj1, hlj1, hr2, h⟩ := h
  refine e_aald q_61 rfl rfl (by decide) hjj1 hlj1 (by have := (List.getElem?_eq_some_iff.mp hlj1).1; simp at this; omega) ?_
  refine e_store (ls' := [some (.inr (some 4)), some (.inl x1), some (.inr (some r2)), none, none, none]) q_61 rfl (Nat.le_of_ble_eq_true rfl) rfl rfl ?_
  refine e_push q_61 rfl ?_
  refine e_store (ls' := [some (.inr (some 4)), some (.inl x1), some (.inr (some r2)), some (.inl 0), none, none]) q_61 rfl (Nat.le_of_ble_eq_true rfl) rfl rfl ?_
  refine e_push q_61 rfl ?_
  refine e_store (ls' := [some (.inr (some 4)), some (.inl x1), some (.inr (some r2)), some (.inl 0), some (.inl 0), none]) q_61 rfl (Nat.le_of_ble_eq_true rfl) rfl rfl ?_
  exact h
theorem g_61_9 {S : Nat × (Nat → Int32)} {d : Nat} {σ : Mem} {Q : MQ1} {x1 : Int32} {p2 p2f p2s p2m : Nat} {x3 : Int32} {x4 : Int32} {o5 : Option MV} (hp2 : isPl p2 p2f p2s p2m) (h : ((x1 ≤ x4 → Q [.inl x3] σ) ∧ (¬ (x1 ≤ x4) → (∃ j1 r2 r2f r2s r2m : Nat, x4 = nI j1 ∧ ([6, 10, 14, 18] : List Nat)[j1]? = some r2 ∧ isPl r2 r2f r2s r2m ∧ Ec S d 41 [.inr (some p2), .inr (some r2)] σ (fun rv σ' => Ev S (d + 1) 61 20 [some (.inr (some 4)), some (.inl x1), some (.inr (some p2)), some (.inl x3), some (.inl x4), some (.inr (some r2))] (rv ++ []) σ' Q))))) : Ev S (d + 1) 61 9 [some (.inr (some 4)), some (.inl x1), some (.inr (some p2)), some (.inl x3), some (.inl x4), o5] [] σ Q := by
  refine e_load q_61 rfl rfl rfl ?_
  refine e_load q_61 rfl rfl rfl ?_
  refine e_icmp (P := x1 ≤ x4) q_61 rfl m_c3 (fun c => ?_) (fun c => ?_)
  · replace h := h.1 c
    refine e_load q_61 rfl rfl rfl ?_
    exact e_ireturn q_61 rfl rfl h
  · replace h := h.2 c
    refine e_load q_61 rfl rfl rfl ?_
    refine e_getR q_61 rfl rfl rfl ?_
    refine e_load q_61 rfl rfl rfl ?_
    obtain ⟨j1, r2, r2f, r2s, r2m, hjj1, hlj1, hr2, h⟩ := h
    refine e_aald q_61 rfl rfl (by decide) hjj1 hlj1 (by have := (List.getElem?_eq_some_iff.mp hlj1).1; simp at this; omega) ?_
    refine e_store (ls' := [some (.inr (some 4)), some (.inl x1), some (.inr (some p2)), some (.inl x3), some (.inl x4), some (.inr (some r2))]) q_61 rfl (Nat.le_of_ble_eq_true rfl) rfl rfl ?_
    refine e_load q_61 rfl rfl rfl ?_
    refine e_load q_61 rfl rfl rfl ?_
    exact e_virt q_61 rfl rfl (Nat.le_of_ble_eq_true rfl) rfl rfl (Nat.le_of_ble_eq_true rfl) hp2.1 h
theorem g_61_20 {S : Nat × (Nat → Int32)} {d : Nat} {σ : Mem} {Q : MQ1} {x1 : Int32} {p2 p2f p2s p2m : Nat} {x3 : Int32} {x4 : Int32} {p5 p5f p5s p5m : Nat} {y0 : Int32} (hp2 : isPl p2 p2f p2s p2m) (hp5 : isPl p5 p5f p5s p5m) (h : ((y0 = 0 → Ec S d 42 [.inr (some p2), .inr (some p5)] σ (fun rv σ' => Ev S (d + 1) 61 31 [some (.inr (some 4)), some (.inl x1), some (.inr (some p2)), some (.inl x3), some (.inl x4), some (.inr (some p5))] (rv ++ []) σ' Q)) ∧ (¬ (y0 = 0) → Ec S d 42 [.inr (some p2), .inr (some p5)] σ (fun rv σ' => Ev S (d + 1) 61 31 [some (.inr (some 4)), some (.inl x1), some (.inr (some p2)), some (.inl (if x3 < (σ p5 8) + 1 then (σ p5 8) + 1 else x3)), some (.inl x4), some (.inr (some p5))] (rv ++ []) σ' Q)))) : Ev S (d + 1) 61 20 [some (.inr (some 4)), some (.inl x1), some (.inr (some p2)), some (.inl x3), some (.inl x4), some (.inr (some p5))] [.inl y0] σ Q := by
  refine e_if (P := y0 = 0) q_61 rfl m_c0 (fun c => ?_) (fun c => ?_)
  · replace h := h.1 c
    refine e_load q_61 rfl rfl rfl ?_
    refine e_load q_61 rfl rfl rfl ?_
    exact e_virt q_61 rfl rfl (Nat.le_of_ble_eq_true rfl) rfl rfl (Nat.le_of_ble_eq_true rfl) hp2.1 h
  · replace h := h.2 c
    refine e_load q_61 rfl rfl rfl ?_
    refine e_load q_61 rfl rfl rfl ?_
    refine e_getI q_61 rfl hp5.1 rfl ?_
    refine e_push q_61 rfl ?_
    refine e_bin (r := (σ p5 8) + 1) q_61 rfl rfl ?_
    refine e_max (r := (if x3 < (σ p5 8) + 1 then (σ p5 8) + 1 else x3)) q_61 rfl (Nat.le_of_ble_eq_true rfl) rfl ?_
    refine e_store (ls' := [some (.inr (some 4)), some (.inl x1), some (.inr (some p2)), some (.inl (if x3 < (σ p5 8) + 1 then (σ p5 8) + 1 else x3)), some (.inl x4), some (.inr (some p5))]) q_61 rfl (Nat.le_of_ble_eq_true rfl) rfl rfl ?_
    refine e_load q_61 rfl rfl rfl ?_
    refine e_load q_61 rfl rfl rfl ?_
    exact e_virt q_61 rfl rfl (Nat.le_of_ble_eq_true rfl) rfl rfl (Nat.le_of_ble_eq_true rfl) hp2.1 h
theorem g_61_31 {S : Nat × (Nat → Int32)} {d : Nat} {σ : Mem} {Q : MQ1} {x1 : Int32} {p2 p2f p2s p2m : Nat} {x3 : Int32} {x4 : Int32} {p5 p5f p5s p5m : Nat} {y0 : Int32} (hp2 : isPl p2 p2f p2s p2m) (hp5 : isPl p5 p5f p5s p5m) (h : ((y0 = 0 → Ev S (d + 1) 61 9 [some (.inr (some 4)), some (.inl x1), some (.inr (some p2)), some (.inl x3), some (.inl (x4 + 1)), some (.inr (some p5))] [] σ Q) ∧ (¬ (y0 = 0) → Ev S (d + 1) 61 9 [some (.inr (some 4)), some (.inl x1), some (.inr (some p2)), some (.inl (if x3 < σ p5 8 then σ p5 8 else x3)), some (.inl (x4 + 1)), some (.inr (some p5))] [] σ Q))) : Ev S (d + 1) 61 31 [some (.inr (some 4)), some (.inl x1), some (.inr (some p2)), some (.inl x3), some (.inl x4), some (.inr (some p5))] [.inl y0] σ Q := by
  refine e_if (P := y0 = 0) q_61 rfl m_c0 (fun c => ?_) (fun c => ?_)
  · replace h := h.1 c
    refine e_iinc (ls' := [some (.inr (some 4)), some (.inl x1), some (.inr (some p2)), some (.inl x3), some (.inl (x4 + 1)), some (.inr (some p5))]) q_61 rfl rfl rfl ?_
    refine e_goto q_61 rfl ?_
    exact h
  · replace h := h.2 c
    refine e_load q_61 rfl rfl rfl ?_
    refine e_load q_61 rfl rfl rfl ?_
    refine e_getI q_61 rfl hp5.1 rfl ?_
    refine e_max (r := (if x3 < σ p5 8 then σ p5 8 else x3)) q_61 rfl (Nat.le_of_ble_eq_true rfl) rfl ?_
    refine e_store (ls' := [some (.inr (some 4)), some (.inl x1), some (.inr (some p2)), some (.inl (if x3 < σ p5 8 then σ p5 8 else x3)), some (.inl x4), some (.inr (some p5))]) q_61 rfl (Nat.le_of_ble_eq_true rfl) rfl rfl ?_
    refine e_iinc (ls' := [some (.inr (some 4)), some (.inl x1), some (.inr (some p2)), some (.inl (if x3 < σ p5 8 then σ p5 8 else x3)), some (.inl (x4 + 1)), some (.inr (some p5))]) q_61 rfl rfl rfl ?_
    refine e_goto q_61 rfl ?_
    exact h
theorem g_62_0 {S : Nat × (Nat → Int32)} {d : Nat} {σ : Mem} {Q : MQ1} {x1 : Int32}  (h : (∃ j1 r2 r2f r2s r2m : Nat, x1 = nI j1 ∧ ([6, 10, 14, 18] : List Nat)[j1]? = some r2 ∧ isPl r2 r2f r2s r2m ∧ Ev S (d + 1) 62 9 [some (.inr (some 4)), some (.inl x1), some (.inr (some r2)), some (.inl 5), some (.inl 0), none] [] σ Q)) : Ev S (d + 1) 62 0 [some (.inr (some 4)), some (.inl x1), none, none, none, none] [] σ Q := by
  refine e_load q_62 rfl rfl rfl ?_
  refine e_getR q_62 rfl rfl rfl ?_
  refine e_load q_62 rfl rfl rfl ?_
  obtain ⟨j1, r2, r2f, r2s, r2m, hjj1, hlj1, hr2, h⟩ := h
  refine e_aald q_62 rfl rfl (by decide) hjj1 hlj1 (by have := (List.getElem?_eq_some_iff.mp hlj1).1; simp at this; omega) ?_
  refine e_store (ls' := [some (.inr (some 4)), some (.inl x1), some (.inr (some r2)), none, none, none]) q_62 rfl (Nat.le_of_ble_eq_true rfl) rfl rfl ?_
  refine e_push q_62 rfl ?_
  refine e_store (ls' := [some (.inr (some 4)), some (.inl x1), some (.inr (some r2)), some (.inl 5), none, none]) q_62 rfl (Nat.le_of_ble_eq_true rfl) rfl rfl ?_
  refine e_push q_62 rfl ?_
  refine e_store (ls' := [some (.inr (some 4)), some (.inl x1), some (.inr (some r2)), some (.inl 5), some (.inl 0), none]) q_62 rfl (Nat.le_of_ble_eq_true rfl) rfl rfl ?_
  exact h
theorem g_62_9 {S : Nat × (Nat → Int32)} {d : Nat} {σ : Mem} {Q : MQ1} {x1 : Int32} {p2 p2f p2s p2m : Nat} {x3 : Int32} {x4 : Int32} {o5 : Option MV} (hp2 : isPl p2 p2f p2s p2m) (h : ((x1 ≤ x4 → Q [.inl x3] σ) ∧ (¬ (x1 ≤ x4) → (∃ j1 r2 r2f r2s r2m : Nat, x4 = nI j1 ∧ ([6, 10, 14, 18] : List Nat)[j1]? = some r2 ∧ isPl r2 r2f r2s r2m ∧ Ec S d 41 [.inr (some r2), .inr (some p2)] σ (fun rv σ' => Ev S (d + 1) 62 20 [some (.inr (some 4)), some (.inl x1), some (.inr (some p2)), some (.inl x3), some (.inl x4), some (.inr (some r2))] (rv ++ []) σ' Q))))) : Ev S (d + 1) 62 9 [some (.inr (some 4)), some (.inl x1), some (.inr (some p2)), some (.inl x3), some (.inl x4), o5] [] σ Q := by
  refine e_load q_62 rfl rfl rfl ?_
  refine e_load q_62 rfl rfl rfl ?_
  refine e_icmp (P := x1 ≤ x4) q_62 rfl m_c3 (fun c => ?_) (fun c => ?_)
  · replace h := h.1 c
    refine e_load q_62 rfl rfl rfl ?_
    exact e_ireturn q_62 rfl rfl h
  · replace h := h.2 c
    refine e_load q_62 rfl rfl rfl ?_
    refine e_getR q_62 rfl rfl rfl ?_
    refine e_load q_62 rfl rfl rfl ?_
    obtain ⟨j1, r2, r2f, r2s, r2m, hjj1, hlj1, hr2, h⟩ := h
    refine e_aald q_62 rfl rfl (by decide) hjj1 hlj1 (by have := (List.getElem?_eq_some_iff.mp hlj1).1; simp at this; omega) ?_
    refine e_store (ls' := [some (.inr (some 4)), some (.inl x1), some (.inr (some p2)), some (.inl x3), some (.inl x4), some (.inr (some r2))]) q_62 rfl (Nat.le_of_ble_eq_true rfl) rfl rfl ?_
    refine e_load q_62 rfl rfl rfl ?_
    refine e_load q_62 rfl rfl rfl ?_
    exact e_virt q_62 rfl rfl (Nat.le_of_ble_eq_true rfl) rfl rfl (Nat.le_of_ble_eq_true rfl) hr2.1 h
theorem g_62_20 {S : Nat × (Nat → Int32)} {d : Nat} {σ : Mem} {Q : MQ1} {x1 : Int32} {p2 p2f p2s p2m : Nat} {x3 : Int32} {x4 : Int32} {p5 p5f p5s p5m : Nat} {y0 : Int32} (hp2 : isPl p2 p2f p2s p2m) (hp5 : isPl p5 p5f p5s p5m) (h : ((y0 = 0 → Ec S d 42 [.inr (some p2), .inr (some p5)] σ (fun rv σ' => Ev S (d + 1) 62 31 [some (.inr (some 4)), some (.inl x1), some (.inr (some p2)), some (.inl x3), some (.inl x4), some (.inr (some p5))] (rv ++ []) σ' Q)) ∧ (¬ (y0 = 0) → Ec S d 42 [.inr (some p2), .inr (some p5)] σ (fun rv σ' => Ev S (d + 1) 62 31 [some (.inr (some 4)), some (.inl x1), some (.inr (some p2)), some (.inl (if (σ p5 8) - 1 < x3 then (σ p5 8) - 1 else x3)), some (.inl x4), some (.inr (some p5))] (rv ++ []) σ' Q)))) : Ev S (d + 1) 62 20 [some (.inr (some 4)), some (.inl x1), some (.inr (some p2)), some (.inl x3), some (.inl x4), some (.inr (some p5))] [.inl y0] σ Q := by
  refine e_if (P := y0 = 0) q_62 rfl m_c0 (fun c => ?_) (fun c => ?_)
  · replace h := h.1 c
    refine e_load q_62 rfl rfl rfl ?_
    refine e_load q_62 rfl rfl rfl ?_
    exact e_virt q_62 rfl rfl (Nat.le_of_ble_eq_true rfl) rfl rfl (Nat.le_of_ble_eq_true rfl) hp2.1 h
  · replace h := h.2 c
    refine e_load q_62 rfl rfl rfl ?_
    refine e_load q_62 rfl rfl rfl ?_
    refine e_getI q_62 rfl hp5.1 rfl ?_
    refine e_push q_62 rfl ?_
    refine e_bin (r := (σ p5 8) - 1) q_62 rfl rfl ?_
    refine e_min (r := (if (σ p5 8) - 1 < x3 then (σ p5 8) - 1 else x3)) q_62 rfl (Nat.le_of_ble_eq_true rfl) rfl ?_
    refine e_store (ls' := [some (.inr (some 4)), some (.inl x1), some (.inr (some p2)), some (.inl (if (σ p5 8) - 1 < x3 then (σ p5 8) - 1 else x3)), some (.inl x4), some (.inr (some p5))]) q_62 rfl (Nat.le_of_ble_eq_true rfl) rfl rfl ?_
    refine e_load q_62 rfl rfl rfl ?_
    refine e_load q_62 rfl rfl rfl ?_
    exact e_virt q_62 rfl rfl (Nat.le_of_ble_eq_true rfl) rfl rfl (Nat.le_of_ble_eq_true rfl) hp2.1 h
theorem g_62_31 {S : Nat × (Nat → Int32)} {d : Nat} {σ : Mem} {Q : MQ1} {x1 : Int32} {p2 p2f p2s p2m : Nat} {x3 : Int32} {x4 : Int32} {p5 p5f p5s p5m : Nat} {y0 : Int32} (hp2 : isPl p2 p2f p2s p2m) (hp5 : isPl p5 p5f p5s p5m) (h : ((y0 = 0 → Ev S (d + 1) 62 9 [some (.inr (some 4)), some (.inl x1), some (.inr (some p2)), some (.inl x3), some (.inl (x4 + 1)), some (.inr (some p5))] [] σ Q) ∧ (¬ (y0 = 0) → Ev S (d + 1) 62 9 [some (.inr (some 4)), some (.inl x1), some (.inr (some p2)), some (.inl (if σ p5 8 < x3 then σ p5 8 else x3)), some (.inl (x4 + 1)), some (.inr (some p5))] [] σ Q))) : Ev S (d + 1) 62 31 [some (.inr (some 4)), some (.inl x1), some (.inr (some p2)), some (.inl x3), some (.inl x4), some (.inr (some p5))] [.inl y0] σ Q := by
  refine e_if (P := y0 = 0) q_62 rfl m_c0 (fun c => ?_) (fun c => ?_)
  · replace h := h.1 c
    refine e_iinc (ls' := [some (.inr (some 4)), some (.inl x1), some (.inr (some p2)), some (.inl x3), some (.inl (x4 + 1)), some (.inr (some p5))]) q_62 rfl rfl rfl ?_
    refine e_goto q_62 rfl ?_
    exact h
  · replace h := h.2 c
    refine e_load q_62 rfl rfl rfl ?_
    refine e_load q_62 rfl rfl rfl ?_
    refine e_getI q_62 rfl hp5.1 rfl ?_
    refine e_min (r := (if σ p5 8 < x3 then σ p5 8 else x3)) q_62 rfl (Nat.le_of_ble_eq_true rfl) rfl ?_
    refine e_store (ls' := [some (.inr (some 4)), some (.inl x1), some (.inr (some p2)), some (.inl (if σ p5 8 < x3 then σ p5 8 else x3)), some (.inl x4), some (.inr (some p5))]) q_62 rfl (Nat.le_of_ble_eq_true rfl) rfl rfl ?_
    refine e_iinc (ls' := [some (.inr (some 4)), some (.inl x1), some (.inr (some p2)), some (.inl (if σ p5 8 < x3 then σ p5 8 else x3)), some (.inl (x4 + 1)), some (.inr (some p5))]) q_62 rfl rfl rfl ?_
    refine e_goto q_62 rfl ?_
    exact h
theorem g_63_0 {S : Nat × (Nat → Int32)} {d : Nat} {σ : Mem} {Q : MQ1} {x1 : Int32} {x2 : Int32}  (h : (((σ 4 5) = 2 → Q [.inl 1] σ) ∧ (¬ ((σ 4 5) = 2) → (((¬ (σ 4 7) = 0) → (((¬ (σ 4 5) = 1) → (((σ 4 9) ≤ x2 → Q [.inl 0] σ) ∧ (¬ ((σ 4 9) ≤ x2) → Q [.inl 1] σ))) ∧ (¬ (¬ (σ 4 5) = 1) → ((x1 = (σ 4 8) → (((σ 4 9) ≤ x2 → Q [.inl 0] σ) ∧ (¬ ((σ 4 9) ≤ x2) → Q [.inl 1] σ))) ∧ (¬ (x1 = (σ 4 8)) → (((σ 4 8) ≤ x1 → Q [.inl 0] σ) ∧ (¬ ((σ 4 8) ≤ x1) → Q [.inl 1] σ))))))) ∧ (¬ (¬ (σ 4 7) = 0) → Q [.inl 1] σ))))) : Ev S d 63 0 [some (.inr (some 4)), some (.inl x1), some (.inl x2)] [] σ Q := by
  refine e_load q_63 rfl rfl rfl ?_
  refine e_getI q_63 rfl rfl rfl ?_
  refine e_push q_63 rfl ?_
  refine e_icmp (P := (σ 4 5) = 2) q_63 rfl m_c0 (fun c => ?_) (fun c => ?_)
  · replace h := h.1 c
    refine e_push q_63 rfl ?_
    exact e_zreturn q_63 rfl rfl (by decide) h
  · replace h := h.2 c
    refine e_load q_63 rfl rfl rfl ?_
    refine e_getI q_63 rfl rfl rfl ?_
    refine e_if (P := ¬ (σ 4 7) = 0) q_63 rfl m_c1 (fun c => ?_) (fun c => ?_)
    · replace h := h.1 c
      refine e_load q_63 rfl rfl rfl ?_
      refine e_getI q_63 rfl rfl rfl ?_
      refine e_push q_63 rfl ?_
      refine e_icmp (P := ¬ (σ 4 5) = 1) q_63 rfl m_c1 (fun c => ?_) (fun c => ?_)
      · replace h := h.1 c
        refine e_load q_63 rfl rfl rfl ?_
        refine e_load q_63 rfl rfl rfl ?_
        refine e_getI q_63 rfl rfl rfl ?_
        refine e_icmp (P := (σ 4 9) ≤ x2) q_63 rfl m_c3 (fun c => ?_) (fun c => ?_)
        · replace h := h.1 c
          refine e_push q_63 rfl ?_
          exact e_zreturn q_63 rfl rfl (by decide) h
        · replace h := h.2 c
          refine e_push q_63 rfl ?_
          refine e_goto q_63 rfl ?_
          exact e_zreturn q_63 rfl rfl (by decide) h
      · replace h := h.2 c
        refine e_load q_63 rfl rfl rfl ?_
        refine e_load q_63 rfl rfl rfl ?_
        refine e_getI q_63 rfl rfl rfl ?_
        refine e_icmp (P := x1 = (σ 4 8)) q_63 rfl m_c0 (fun c => ?_) (fun c => ?_)
        · replace h := h.1 c
          refine e_load q_63 rfl rfl rfl ?_
          refine e_load q_63 rfl rfl rfl ?_
          refine e_getI q_63 rfl rfl rfl ?_
          refine e_icmp (P := (σ 4 9) ≤ x2) q_63 rfl m_c3 (fun c => ?_) (fun c => ?_)
          · replace h := h.1 c
            refine e_push q_63 rfl ?_
            exact e_zreturn q_63 rfl rfl (by decide) h
          · replace h := h.2 c
            refine e_push q_63 rfl ?_
            refine e_goto q_63 rfl ?_
            exact e_zreturn q_63 rfl rfl (by decide) h
        · replace h := h.2 c
          refine e_load q_63 rfl rfl rfl ?_
          refine e_load q_63 rfl rfl rfl ?_
          refine e_getI q_63 rfl rfl rfl ?_
          refine e_icmp (P := (σ 4 8) ≤ x1) q_63 rfl m_c3 (fun c => ?_) (fun c => ?_)
          · replace h := h.1 c
            refine e_push q_63 rfl ?_
            exact e_zreturn q_63 rfl rfl (by decide) h
          · replace h := h.2 c
            refine e_push q_63 rfl ?_
            refine e_goto q_63 rfl ?_
            exact e_zreturn q_63 rfl rfl (by decide) h
    · replace h := h.2 c
      refine e_push q_63 rfl ?_
      exact e_zreturn q_63 rfl rfl (by decide) h
theorem g_64_0 {S : Nat × (Nat → Int32)} {d : Nat} {σ : Mem} {Q : MQ1} {x1 : Int32} {x2 : Int32}  (h : ((((up σ 4 7 ((σ 4 7) + 1)) 4 5) = 2 → Q [] (up σ 4 7 ((σ 4 7) + 1))) ∧ (¬ (((up σ 4 7 ((σ 4 7) + 1)) 4 5) = 2) → Ev S (d + 1) 64 18 [some (.inr (some 4)), some (.inl x1), some (.inl x2), some (.inl 0)] [] (up (up (up σ 4 7 ((σ 4 7) + 1)) 4 8 x1) 4 9 x2) Q))) : Ev S (d + 1) 64 0 [some (.inr (some 4)), some (.inl x1), some (.inl x2), none] [] σ Q := by
  refine e_load q_64 rfl rfl rfl ?_
  refine e_dup q_64 rfl ?_
  refine e_getI q_64 rfl rfl rfl ?_
  refine e_push q_64 rfl ?_
  refine e_bin (r := (σ 4 7) + 1) q_64 rfl rfl ?_
  refine e_putI q_64 rfl rfl rfl ?_
  refine e_load q_64 rfl rfl rfl ?_
  refine e_getI q_64 rfl rfl rfl ?_
  refine e_push q_64 rfl ?_
  refine e_icmp (P := ((up σ 4 7 ((σ 4 7) + 1)) 4 5) = 2) q_64 rfl m_c0 (fun c => ?_) (fun c => ?_)
  · replace h := h.1 c
    exact e_return q_64 rfl rfl h
  · replace h := h.2 c
    refine e_load q_64 rfl rfl rfl ?_
    refine e_load q_64 rfl rfl rfl ?_
    refine e_putI q_64 rfl rfl rfl ?_
    refine e_load q_64 rfl rfl rfl ?_
    refine e_load q_64 rfl rfl rfl ?_
    refine e_putI q_64 rfl rfl rfl ?_
    refine e_push q_64 rfl ?_
    refine e_store (ls' := [some (.inr (some 4)), some (.inl x1), some (.inl x2), some (.inl 0)]) q_64 rfl (Nat.le_of_ble_eq_true rfl) rfl rfl ?_
    exact h
theorem g_64_18 {S : Nat × (Nat → Int32)} {d : Nat} {σ : Mem} {Q : MQ1} {o1 : Option MV} {o2 : Option MV} {x3 : Int32}  (h : (((σ 4 6) ≤ x3 → Q [] σ) ∧ (¬ ((σ 4 6) ≤ x3) → (∃ j1 r2 r2f r2s r2m : Nat, x3 = nI j1 ∧ ([6, 10, 14, 18] : List Nat)[j1]? = some r2 ∧ isPl r2 r2f r2s r2m ∧ Ec S d 44 [.inr (some r2)] σ (fun rv σ' => Ev S (d + 1) 64 27 [some (.inr (some 4)), o1, o2, some (.inl x3)] (rv ++ []) σ' Q))))) : Ev S (d + 1) 64 18 [some (.inr (some 4)), o1, o2, some (.inl x3)] [] σ Q := by
  refine e_load q_64 rfl rfl rfl ?_
  refine e_load q_64 rfl rfl rfl ?_
  refine e_getI q_64 rfl rfl rfl ?_
  refine e_icmp (P := (σ 4 6) ≤ x3) q_64 rfl m_c3 (fun c => ?_) (fun c => ?_)
  · replace h := h.1 c
    exact e_return q_64 rfl rfl h
  · replace h := h.2 c
    refine e_load q_64 rfl rfl rfl ?_
    refine e_getR q_64 rfl rfl rfl ?_
    refine e_load q_64 rfl rfl rfl ?_
    obtain ⟨j1, r2, r2f, r2s, r2m, hjj1, hlj1, hr2, h⟩ := h
    refine e_aald q_64 rfl rfl (by decide) hjj1 hlj1 (by have := (List.getElem?_eq_some_iff.mp hlj1).1; simp at this; omega) ?_
    exact e_virt q_64 rfl rfl (Nat.le_of_ble_eq_true rfl) rfl rfl (Nat.le_of_ble_eq_true rfl) hr2.1 h
theorem g_64_27 {S : Nat × (Nat → Int32)} {d : Nat} {σ : Mem} {Q : MQ1} {o1 : Option MV} {o2 : Option MV} {x3 : Int32}  (h : Ev S (d + 1) 64 18 [some (.inr (some 4)), o1, o2, some (.inl (x3 + 1))] [] σ Q) : Ev S (d + 1) 64 27 [some (.inr (some 4)), o1, o2, some (.inl x3)] [] σ Q := by
  refine e_iinc (ls' := [some (.inr (some 4)), o1, o2, some (.inl (x3 + 1))]) q_64 rfl rfl rfl ?_
  refine e_goto q_64 rfl ?_
  exact h
theorem g_66_0 {S : Nat × (Nat → Int32)} {d : Nat} {σ : Mem} {Q : MQ1} {p0 p0n : Nat} {x1 : Int32} {x2 : Int32} (hp0 : isSt p0 p0n) (h : (((¬ x1 = 0) → Ev S d 66 12 [some (.inr (some p0)), some (.inl x1), some (.inl x2), some (.inl 0)] [] (up (up σ p0 1 x1) p0 2 x2) Q) ∧ (¬ (¬ x1 = 0) → Ev S d 66 12 [some (.inr (some p0)), some (.inl x1), some (.inl x2), some (.inl 0)] [] (up (up σ p0 1 x1) p0 2 0) Q))) : Ev S d 66 0 [some (.inr (some p0)), some (.inl x1), some (.inl x2), none] [] σ Q := by
  refine e_load q_66 rfl rfl rfl ?_
  refine e_load q_66 rfl rfl rfl ?_
  refine e_putI q_66 rfl hp0.1 rfl ?_
  refine e_load q_66 rfl rfl rfl ?_
  refine e_load q_66 rfl rfl rfl ?_
  refine e_if (P := ¬ x1 = 0) q_66 rfl m_c1 (fun c => ?_) (fun c => ?_)
  · replace h := h.1 c
    refine e_load q_66 rfl rfl rfl ?_
    refine e_putI q_66 rfl hp0.1 rfl ?_
    refine e_push q_66 rfl ?_
    refine e_store (ls' := [some (.inr (some p0)), some (.inl x1), some (.inl x2), some (.inl 0)]) q_66 rfl (Nat.le_of_ble_eq_true rfl) rfl rfl ?_
    exact h
  · replace h := h.2 c
    refine e_push q_66 rfl ?_
    refine e_goto q_66 rfl ?_
    refine e_putI q_66 rfl hp0.1 rfl ?_
    refine e_push q_66 rfl ?_
    refine e_store (ls' := [some (.inr (some p0)), some (.inl x1), some (.inl x2), some (.inl 0)]) q_66 rfl (Nat.le_of_ble_eq_true rfl) rfl rfl ?_
    exact h
theorem g_66_12 {S : Nat × (Nat → Int32)} {d : Nat} {σ : Mem} {Q : MQ1} {p0 p0n : Nat} {o1 : Option MV} {o2 : Option MV} {x3 : Int32} (hp0 : isSt p0 p0n) (h : ((6 ≤ x3 → Q [.inl (σ p0 2)] σ) ∧ (¬ (6 ≤ x3) → (∃ j1 : Nat, x3 = nI j1 ∧ j1 < 6 ∧ Ev S d 66 12 [some (.inr (some p0)), o1, o2, some (.inl (x3 + 1))] [] (up σ p0n j1 0) Q)))) : Ev S d 66 12 [some (.inr (some p0)), o1, o2, some (.inl x3)] [] σ Q := by
  refine e_load q_66 rfl rfl rfl ?_
  refine e_push q_66 rfl ?_
  refine e_icmp (P := 6 ≤ x3) q_66 rfl m_c3 (fun c => ?_) (fun c => ?_)
  · replace h := h.1 c
    refine e_load q_66 rfl rfl rfl ?_
    refine e_getI q_66 rfl hp0.1 rfl ?_
    exact e_ireturn q_66 rfl rfl h
  · replace h := h.2 c
    refine e_load q_66 rfl rfl rfl ?_
    refine e_getR q_66 rfl hp0.1 rfl ?_
    refine e_load q_66 rfl rfl rfl ?_
    refine e_push q_66 rfl ?_
    obtain ⟨j1, hjj1, hlj1, h⟩ := h
    refine e_iast q_66 rfl hp0.2 (by decide) hjj1 hlj1 ?_
    refine e_iinc (ls' := [some (.inr (some p0)), o1, o2, some (.inl (x3 + 1))]) q_66 rfl rfl rfl ?_
    refine e_goto q_66 rfl ?_
    exact h
theorem g_72_0 {S : Nat × (Nat → Int32)} {d : Nat} {σ : Mem} {Q : MQ1} {p0 p0n : Nat} {x1 : Int32} {x2 : Int32} (hp0 : isSt p0 p0n) (h : (((¬ (σ p0 1) = 8) → (((¬ (σ p0 1) = 16) → (∃ j1 : Nat, x1 = nI j1 ∧ j1 < 6 ∧ Q [] (up σ p0n j1 x2))) ∧ (¬ (¬ (σ p0 1) = 16) → (∃ j2 : Nat, x1 = nI j2 ∧ j2 < 6 ∧ Q [] (up σ p0n j2 (x2.toInt16.toInt32)))))) ∧ (¬ (¬ (σ p0 1) = 8) → (∃ j3 : Nat, x1 = nI j3 ∧ j3 < 6 ∧ Q [] (up σ p0n j3 (x2.toInt8.toInt32)))))) : Ev S d 72 0 [some (.inr (some p0)), some (.inl x1), some (.inl x2)] [] σ Q := by
  refine e_load q_72 rfl rfl rfl ?_
  refine e_getI q_72 rfl hp0.1 rfl ?_
  refine e_push q_72 rfl ?_
  refine e_icmp (P := ¬ (σ p0 1) = 8) q_72 rfl m_c1 (fun c => ?_) (fun c => ?_)
  · replace h := h.1 c
    refine e_load q_72 rfl rfl rfl ?_
    refine e_getI q_72 rfl hp0.1 rfl ?_
    refine e_push q_72 rfl ?_
    refine e_icmp (P := ¬ (σ p0 1) = 16) q_72 rfl m_c1 (fun c => ?_) (fun c => ?_)
    · replace h := h.1 c
      refine e_load q_72 rfl rfl rfl ?_
      refine e_getR q_72 rfl hp0.1 rfl ?_
      refine e_load q_72 rfl rfl rfl ?_
      refine e_load q_72 rfl rfl rfl ?_
      obtain ⟨j1, hjj1, hlj1, h⟩ := h
      refine e_iast q_72 rfl hp0.2 (by decide) hjj1 hlj1 ?_
      exact e_return q_72 rfl rfl h
    · replace h := h.2 c
      refine e_load q_72 rfl rfl rfl ?_
      refine e_getR q_72 rfl hp0.1 rfl ?_
      refine e_load q_72 rfl rfl rfl ?_
      refine e_load q_72 rfl rfl rfl ?_
      refine e_un (r := x2.toInt16.toInt32) q_72 rfl rfl ?_
      obtain ⟨j2, hjj2, hlj2, h⟩ := h
      refine e_iast q_72 rfl hp0.2 (by decide) hjj2 hlj2 ?_
      refine e_goto q_72 rfl ?_
      exact e_return q_72 rfl rfl h
  · replace h := h.2 c
    refine e_load q_72 rfl rfl rfl ?_
    refine e_getR q_72 rfl hp0.1 rfl ?_
    refine e_load q_72 rfl rfl rfl ?_
    refine e_load q_72 rfl rfl rfl ?_
    refine e_un (r := x2.toInt8.toInt32) q_72 rfl rfl ?_
    obtain ⟨j3, hjj3, hlj3, h⟩ := h
    refine e_iast q_72 rfl hp0.2 (by decide) hjj3 hlj3 ?_
    refine e_goto q_72 rfl ?_
    exact e_return q_72 rfl rfl h
theorem g_73_0 {S : Nat × (Nat → Int32)} {d : Nat} {σ : Mem} {Q : MQ1} {p0 p0n : Nat} {p1 p1n : Nat} {x2 : Int32} {x3 : Int32} {x4 : Int32} (hp0 : isSt p0 p0n) (hp1 : isSt p1 p1n) (h : (∃ j1 j2 j3 : Nat, x2 = nI j1 ∧ x3 = nI j2 ∧ x4 = nI j3 ∧ j1 + j3 ≤ 6 ∧ j2 + j3 ≤ 6 ∧ Q [] (upr σ p0n (fun k => if j2 ≤ k ∧ k < j2 + j3 then σ p1n (j1 + (k - j2)) else σ p0n k)))) : Ev S (d + 1) 73 0 [some (.inr (some p0)), some (.inr (some p1)), some (.inl x2), some (.inl x3), some (.inl x4)] [] σ Q := by
  refine e_load q_73 rfl rfl rfl ?_
  refine e_getR q_73 rfl hp1.1 rfl ?_
  refine e_load q_73 rfl rfl rfl ?_
  refine e_load q_73 rfl rfl rfl ?_
  refine e_getR q_73 rfl hp0.1 rfl ?_
  refine e_load q_73 rfl rfl rfl ?_
  refine e_load q_73 rfl rfl rfl ?_
  obtain ⟨j1, j2, j3, hjj1, hjj2, hjj3, hlj1, hlj2, h⟩ := h
  refine e_copy q_73 rfl hp1.2 hp0.2 (by decide) (by decide) hjj1 hjj2 hjj3 hlj1 hlj2 (Nat.le_of_ble_eq_true rfl) ?_
  exact e_return q_73 rfl rfl h
