theorem q_118 : m_code 118 = mc_118 := rfl
theorem g_118_0 {S : Nat × (Nat → Int32)} {d : Nat} {σ : Mem} {Q : MQ1} {x1 : Int32}  (h : Q [.inl x1] (up σ 60 6 ((σ 60 6) + 1))) : Ev S d 118 0 [some (.inr (some 60)), some (.inl x1)] [] σ Q := by
  refine e_load q_118 rfl rfl rfl ?_
  refine e_dup q_118 rfl ?_
  refine e_getI q_118 rfl rfl rfl ?_
  refine e_push q_118 rfl ?_
  refine e_bin (r := (σ 60 6) + 1) q_118 rfl rfl ?_
  refine e_putI q_118 rfl rfl rfl ?_
  refine e_load q_118 rfl rfl rfl ?_
  exact e_ireturn q_118 rfl rfl h
theorem q_119 : m_code 119 = mc_119 := rfl
theorem g_119_0 {S : Nat × (Nat → Int32)} {d : Nat} {σ : Mem} {Q : MQ1} {x0 : Int32} {x1 : Int32} {x2 : Int32}  (h : ((x0 < x1 → Q [.inl 0] σ) ∧ (¬ (x0 < x1) → ((x2 < x0 → Q [.inl 0] σ) ∧ (¬ (x2 < x0) → Q [.inl 1] σ))))) : Ev S d 119 0 [some (.inl x0), some (.inl x1), some (.inl x2)] [] σ Q := by
  refine e_load q_119 rfl rfl rfl ?_
  refine e_load q_119 rfl rfl rfl ?_
  refine e_icmp (P := x0 < x1) q_119 rfl m_c2 (fun c => ?_) (fun c => ?_)
  · replace h := h.1 c
    refine e_push q_119 rfl ?_
    exact e_zreturn q_119 rfl rfl (by decide) h
  · replace h := h.2 c
    refine e_load q_119 rfl rfl rfl ?_
    refine e_load q_119 rfl rfl rfl ?_
    refine e_icmp (P := x2 < x0) q_119 rfl m_c4 (fun c => ?_) (fun c => ?_)
    · replace h := h.1 c
      refine e_push q_119 rfl ?_
      exact e_zreturn q_119 rfl rfl (by decide) h
    · replace h := h.2 c
      refine e_push q_119 rfl ?_
      refine e_goto q_119 rfl ?_
      exact e_zreturn q_119 rfl rfl (by decide) h
theorem q_120 : m_code 120 = mc_120 := rfl
theorem g_120_0 {S : Nat × (Nat → Int32)} {d : Nat} {σ : Mem} {Q : MQ1} {x1 : Int32}  (h : ((x1 < 0 → Q [.inl 0] σ) ∧ (¬ (x1 < 0) → (((σ 61 0) ≤ x1 → Q [.inl 0] σ) ∧ (¬ ((σ 61 0) ≤ x1) → Q [.inl 1] σ))))) : Ev S d 120 0 [some (.inr (some 60)), some (.inl x1)] [] σ Q := by
  refine e_load q_120 rfl rfl rfl ?_
  refine e_if (P := x1 < 0) q_120 rfl m_c2 (fun c => ?_) (fun c => ?_)
  · replace h := h.1 c
    refine e_push q_120 rfl ?_
    exact e_zreturn q_120 rfl rfl (by decide) h
  · replace h := h.2 c
    refine e_load q_120 rfl rfl rfl ?_
    refine e_load q_120 rfl rfl rfl ?_
    refine e_getR q_120 rfl rfl rfl ?_
    refine e_push q_120 rfl ?_
    refine e_iald (j := 0) q_120 rfl rfl (by decide) (by decide +kernel) (by decide) ?_
    refine e_icmp (P := (σ 61 0) ≤ x1) q_120 rfl m_c3 (fun c => ?_) (fun c => ?_)
    · replace h := h.1 c
      refine e_push q_120 rfl ?_
      exact e_zreturn q_120 rfl rfl (by decide) h
    · replace h := h.2 c
      refine e_push q_120 rfl ?_
      refine e_goto q_120 rfl ?_
      exact e_zreturn q_120 rfl rfl (by decide) h
theorem q_121 : m_code 121 = mc_121 := rfl
theorem g_121_0 {S : Nat × (Nat → Int32)} {d : Nat} {σ : Mem} {Q : MQ1} {x0 : Int32}  (h : Ec S d 119 [.inl x0, .inl 0, .inl 5] σ (fun rv σ' => Ev S (d + 1) 121 4 [some (.inl x0)] (rv ++ []) σ' Q)) : Ev S (d + 1) 121 0 [some (.inl x0)] [] σ Q := by
  refine e_load q_121 rfl rfl rfl ?_
  refine e_push q_121 rfl ?_
  refine e_push q_121 rfl ?_
  exact e_stat q_121 rfl (Nat.le_of_ble_eq_true rfl) rfl rfl (Nat.le_of_ble_eq_true rfl) h
theorem g_121_4 {S : Nat × (Nat → Int32)} {d : Nat} {σ : Mem} {Q : MQ1} {o0 : Option MV} {y0 : Int32}  (h : ((y0 = 0 ∨ y0 = 1) ∧ Q [.inl y0] σ)) : Ev S (d + 1) 121 4 [o0] [.inl y0] σ Q := by
  exact e_zreturn q_121 rfl rfl h.1 h.2
theorem q_122 : m_code 122 = mc_122 := rfl
theorem g_122_0 {S : Nat × (Nat → Int32)} {d : Nat} {σ : Mem} {Q : MQ1} {x1 : Int32} {x2 : Int32}  (h : (∃ j1 : Nat, (1 + (9 * x1)) + x2 = nI j1 ∧ j1 < 86 ∧ Q [.inl (σ 61 j1)] σ)) : Ev S d 122 0 [some (.inr (some 60)), some (.inl x1), some (.inl x2)] [] σ Q := by
  refine e_load q_122 rfl rfl rfl ?_
  refine e_getR q_122 rfl rfl rfl ?_
  refine e_push q_122 rfl ?_
  refine e_push q_122 rfl ?_
  refine e_load q_122 rfl rfl rfl ?_
  refine e_bin (r := 9 * x1) q_122 rfl rfl ?_
  refine e_bin (r := 1 + (9 * x1)) q_122 rfl rfl ?_
  refine e_load q_122 rfl rfl rfl ?_
  refine e_bin (r := (1 + (9 * x1)) + x2) q_122 rfl rfl ?_
  obtain ⟨j1, hjj1, hlj1, h⟩ := h
  refine e_iald q_122 rfl rfl (by decide) hjj1 hlj1 ?_
  exact e_ireturn q_122 rfl rfl h
theorem q_123 : m_code 123 = mc_123 := rfl
theorem g_123_0 {S : Nat × (Nat → Int32)} {d : Nat} {σ : Mem} {Q : MQ1} {x1 : Int32} {x2 : Int32} {x3 : Int32}  (h : (∃ j1 : Nat, (1 + (9 * x1)) + x2 = nI j1 ∧ j1 < 86 ∧ Q [] (up σ 61 j1 x3))) : Ev S d 123 0 [some (.inr (some 60)), some (.inl x1), some (.inl x2), some (.inl x3)] [] σ Q := by
  refine e_load q_123 rfl rfl rfl ?_
  refine e_getR q_123 rfl rfl rfl ?_
  refine e_push q_123 rfl ?_
  refine e_push q_123 rfl ?_
  refine e_load q_123 rfl rfl rfl ?_
  refine e_bin (r := 9 * x1) q_123 rfl rfl ?_
  refine e_bin (r := 1 + (9 * x1)) q_123 rfl rfl ?_
  refine e_load q_123 rfl rfl rfl ?_
  refine e_bin (r := (1 + (9 * x1)) + x2) q_123 rfl rfl ?_
  refine e_load q_123 rfl rfl rfl ?_
  obtain ⟨j1, hjj1, hlj1, h⟩ := h
  refine e_iast q_123 rfl rfl (by decide) hjj1 hlj1 ?_
  exact e_return q_123 rfl rfl h
theorem q_124 : m_code 124 = mc_124 := rfl
theorem g_124_0 {S : Nat × (Nat → Int32)} {d : Nat} {σ : Mem} {Q : MQ1} {x1 : Int32}  (h : Ec S d 122 [.inr (some 60), .inl x1, .inl 0] σ (fun rv σ' => Ev S (d + 1) 124 4 [some (.inr (some 60)), some (.inl x1)] (rv ++ []) σ' Q)) : Ev S (d + 1) 124 0 [some (.inr (some 60)), some (.inl x1)] [] σ Q := by
  refine e_load q_124 rfl rfl rfl ?_
  refine e_load q_124 rfl rfl rfl ?_
  refine e_push q_124 rfl ?_
  exact e_virt q_124 rfl rfl (Nat.le_of_ble_eq_true rfl) rfl rfl (Nat.le_of_ble_eq_true rfl) rfl h
theorem g_124_4 {S : Nat × (Nat → Int32)} {d : Nat} {σ : Mem} {Q : MQ1} {o0 : Option MV} {o1 : Option MV} {y0 : Int32}  (h : (((¬ y0 = 2) → Q [.inl 0] σ) ∧ (¬ (¬ y0 = 2) → Q [.inl 1] σ))) : Ev S (d + 1) 124 4 [o0, o1] [.inl y0] σ Q := by
  refine e_push q_124 rfl ?_
  refine e_icmp (P := ¬ y0 = 2) q_124 rfl m_c1 (fun c => ?_) (fun c => ?_)
  · replace h := h.1 c
    refine e_push q_124 rfl ?_
    exact e_zreturn q_124 rfl rfl (by decide) h
  · replace h := h.2 c
    refine e_push q_124 rfl ?_
    refine e_goto q_124 rfl ?_
    exact e_zreturn q_124 rfl rfl (by decide) h
theorem q_125 : m_code 125 = mc_125 := rfl
theorem g_125_0 {S : Nat × (Nat → Int32)} {d : Nat} {σ : Mem} {Q : MQ1} {x1 : Int32}  (h : (∃ j1 : Nat, 79 + x1 = nI j1 ∧ j1 < 86 ∧ (((¬ (σ 61 j1) = 1) → Q [.inl 0] σ) ∧ (¬ (¬ (σ 61 j1) = 1) → Q [.inl 1] σ)))) : Ev S d 125 0 [some (.inr (some 60)), some (.inl x1)] [] σ Q := by
  refine e_load q_125 rfl rfl rfl ?_
  refine e_getR q_125 rfl rfl rfl ?_
  refine e_push q_125 rfl ?_
  refine e_load q_125 rfl rfl rfl ?_
  refine e_bin (r := 79 + x1) q_125 rfl rfl ?_
  obtain ⟨j1, hjj1, hlj1, h⟩ := h
  refine e_iald q_125 rfl rfl (by decide) hjj1 hlj1 ?_
  refine e_push q_125 rfl ?_
  refine e_icmp (P := ¬ (σ 61 j1) = 1) q_125 rfl m_c1 (fun c => ?_) (fun c => ?_)
  · replace h := h.1 c
    refine e_push q_125 rfl ?_
    exact e_zreturn q_125 rfl rfl (by decide) h
  · replace h := h.2 c
    refine e_push q_125 rfl ?_
    refine e_goto q_125 rfl ?_
    exact e_zreturn q_125 rfl rfl (by decide) h
theorem q_126 : m_code 126 = mc_126 := rfl
theorem g_126_0 {S : Nat × (Nat → Int32)} {d : Nat} {σ : Mem} {Q : MQ1}   (h : (((¬ (σ 60 2) = 25) → Ev S d 126 29 [some (.inr (some 60)), some (.inl 0)] [] σ Q) ∧ (¬ (¬ (σ 60 2) = 25) → Ev S d 126 6 [some (.inr (some 60)), some (.inl 0)] [] σ Q))) : Ev S d 126 0 [some (.inr (some 60)), none] [] σ Q := by
  refine e_load q_126 rfl rfl rfl ?_
  refine e_getI q_126 rfl rfl rfl ?_
  refine e_push q_126 rfl ?_
  refine e_icmp (P := ¬ (σ 60 2) = 25) q_126 rfl m_c1 (fun c => ?_) (fun c => ?_)
  · replace h := h.1 c
    refine e_push q_126 rfl ?_
    refine e_store (ls' := [some (.inr (some 60)), some (.inl 0)]) q_126 rfl (Nat.le_of_ble_eq_true rfl) rfl rfl ?_
    exact h
  · replace h := h.2 c
    refine e_push q_126 rfl ?_
    refine e_store (ls' := [some (.inr (some 60)), some (.inl 0)]) q_126 rfl (Nat.le_of_ble_eq_true rfl) rfl rfl ?_
    exact h
theorem g_126_29 {S : Nat × (Nat → Int32)} {d : Nat} {σ : Mem} {Q : MQ1} {x1 : Int32}  (h : ((86 ≤ x1 → Q [] (up σ 60 2 ((σ 60 2) + 1))) ∧ (¬ (86 ≤ x1) → (∃ j1 : Nat, x1 = nI j1 ∧ j1 < 86 ∧ (∃ j2 : Nat, (86 * (σ 60 2)) + x1 = nI j2 ∧ j2 < 2150 ∧ Ev S d 126 29 [some (.inr (some 60)), some (.inl (x1 + 1))] [] (up σ 62 j2 (σ 61 j1)) Q))))) : Ev S d 126 29 [some (.inr (some 60)), some (.inl x1)] [] σ Q := by
  refine e_load q_126 rfl rfl rfl ?_
  refine e_push q_126 rfl ?_
  refine e_icmp (P := 86 ≤ x1) q_126 rfl m_c3 (fun c => ?_) (fun c => ?_)
  · replace h := h.1 c
    refine e_load q_126 rfl rfl rfl ?_
    refine e_dup q_126 rfl ?_
    refine e_getI q_126 rfl rfl rfl ?_
    refine e_push q_126 rfl ?_
    refine e_bin (r := (σ 60 2) + 1) q_126 rfl rfl ?_
    refine e_putI q_126 rfl rfl rfl ?_
    exact e_return q_126 rfl rfl h
  · replace h := h.2 c
    refine e_load q_126 rfl rfl rfl ?_
    refine e_getR q_126 rfl rfl rfl ?_
    refine e_push q_126 rfl ?_
    refine e_load q_126 rfl rfl rfl ?_
    refine e_getI q_126 rfl rfl rfl ?_
    refine e_bin (r := 86 * (σ 60 2)) q_126 rfl rfl ?_
    refine e_load q_126 rfl rfl rfl ?_
    refine e_bin (r := (86 * (σ 60 2)) + x1) q_126 rfl rfl ?_
    refine e_load q_126 rfl rfl rfl ?_
    refine e_getR q_126 rfl rfl rfl ?_
    refine e_load q_126 rfl rfl rfl ?_
    obtain ⟨j1, hjj1, hlj1, h⟩ := h
    refine e_iald q_126 rfl rfl (by decide) hjj1 hlj1 ?_
    obtain ⟨j2, hjj2, hlj2, h⟩ := h
    refine e_iast q_126 rfl rfl (by decide) hjj2 hlj2 ?_
    refine e_iinc (ls' := [some (.inr (some 60)), some (.inl (x1 + 1))]) q_126 rfl rfl rfl ?_
    refine e_goto q_126 rfl ?_
    exact h
theorem g_126_6 {S : Nat × (Nat → Int32)} {d : Nat} {σ : Mem} {Q : MQ1} {x1 : Int32}  (h : ((2064 ≤ x1 → Ev S d 126 29 [some (.inr (some 60)), some (.inl 0)] [] (up σ 60 2 ((σ 60 2) - 1)) Q) ∧ (¬ (2064 ≤ x1) → (∃ j1 : Nat, x1 + 86 = nI j1 ∧ j1 < 2150 ∧ (∃ j2 : Nat, x1 = nI j2 ∧ j2 < 2150 ∧ Ev S d 126 6 [some (.inr (some 60)), some (.inl (x1 + 1))] [] (up σ 62 j2 (σ 62 j1)) Q))))) : Ev S d 126 6 [some (.inr (some 60)), some (.inl x1)] [] σ Q := by
  refine e_load q_126 rfl rfl rfl ?_
  refine e_push q_126 rfl ?_
  refine e_icmp (P := 2064 ≤ x1) q_126 rfl m_c3 (fun c => ?_) (fun c => ?_)
  · replace h := h.1 c
    refine e_load q_126 rfl rfl rfl ?_
    refine e_dup q_126 rfl ?_
    refine e_getI q_126 rfl rfl rfl ?_
    refine e_push q_126 rfl ?_
    refine e_bin (r := (σ 60 2) - 1) q_126 rfl rfl ?_
    refine e_putI q_126 rfl rfl rfl ?_
    refine e_push q_126 rfl ?_
    refine e_store (ls' := [some (.inr (some 60)), some (.inl 0)]) q_126 rfl (Nat.le_of_ble_eq_true rfl) rfl rfl ?_
    exact h
  · replace h := h.2 c
    refine e_load q_126 rfl rfl rfl ?_
    refine e_getR q_126 rfl rfl rfl ?_
    refine e_load q_126 rfl rfl rfl ?_
    refine e_load q_126 rfl rfl rfl ?_
    refine e_getR q_126 rfl rfl rfl ?_
    refine e_load q_126 rfl rfl rfl ?_
    refine e_push q_126 rfl ?_
    refine e_bin (r := x1 + 86) q_126 rfl rfl ?_
    obtain ⟨j1, hjj1, hlj1, h⟩ := h
    refine e_iald q_126 rfl rfl (by decide) hjj1 hlj1 ?_
    obtain ⟨j2, hjj2, hlj2, h⟩ := h
    refine e_iast q_126 rfl rfl (by decide) hjj2 hlj2 ?_
    refine e_iinc (ls' := [some (.inr (some 60)), some (.inl (x1 + 1))]) q_126 rfl rfl rfl ?_
    refine e_goto q_126 rfl ?_
    exact h
theorem q_127 : m_code 127 = mc_127 := rfl
theorem g_127_0 {S : Nat × (Nat → Int32)} {d : Nat} {σ : Mem} {Q : MQ1}   (h : (((¬ (σ 60 2) = 0) → Ev S (d + 1) 127 15 [some (.inr (some 60)), some (.inl 0)] [] (up σ 60 2 ((σ 60 2) - 1)) Q) ∧ (¬ (¬ (σ 60 2) = 0) → Ec S d 118 [.inr (some 60), .inl (-100006)] σ (fun rv σ' => Ev S (d + 1) 127 6 [some (.inr (some 60)), none] (rv ++ []) σ' Q)))) : Ev S (d + 1) 127 0 [some (.inr (some 60)), none] [] σ Q := by
  refine e_load q_127 rfl rfl rfl ?_
  refine e_getI q_127 rfl rfl rfl ?_
  refine e_if (P := ¬ (σ 60 2) = 0) q_127 rfl m_c1 (fun c => ?_) (fun c => ?_)
  · replace h := h.1 c
    refine e_load q_127 rfl rfl rfl ?_
    refine e_dup q_127 rfl ?_
    refine e_getI q_127 rfl rfl rfl ?_
    refine e_push q_127 rfl ?_
    refine e_bin (r := (σ 60 2) - 1) q_127 rfl rfl ?_
    refine e_putI q_127 rfl rfl rfl ?_
    refine e_push q_127 rfl ?_
    refine e_store (ls' := [some (.inr (some 60)), some (.inl 0)]) q_127 rfl (Nat.le_of_ble_eq_true rfl) rfl rfl ?_
    exact h
  · replace h := h.2 c
    refine e_load q_127 rfl rfl rfl ?_
    refine e_push q_127 rfl ?_
    exact e_virt q_127 rfl rfl (Nat.le_of_ble_eq_true rfl) rfl rfl (Nat.le_of_ble_eq_true rfl) rfl h
theorem g_127_15 {S : Nat × (Nat → Int32)} {d : Nat} {σ : Mem} {Q : MQ1} {x1 : Int32}  (h : ((86 ≤ x1 → Q [.inl (σ 60 2)] σ) ∧ (¬ (86 ≤ x1) → (∃ j1 : Nat, (86 * (σ 60 2)) + x1 = nI j1 ∧ j1 < 2150 ∧ (∃ j2 : Nat, x1 = nI j2 ∧ j2 < 86 ∧ Ev S (d + 1) 127 15 [some (.inr (some 60)), some (.inl (x1 + 1))] [] (up σ 61 j2 (σ 62 j1)) Q))))) : Ev S (d + 1) 127 15 [some (.inr (some 60)), some (.inl x1)] [] σ Q := by
  refine e_load q_127 rfl rfl rfl ?_
  refine e_push q_127 rfl ?_
  refine e_icmp (P := 86 ≤ x1) q_127 rfl m_c3 (fun c => ?_) (fun c => ?_)
  · replace h := h.1 c
    refine e_load q_127 rfl rfl rfl ?_
    refine e_getI q_127 rfl rfl rfl ?_
    exact e_ireturn q_127 rfl rfl h
  · replace h := h.2 c
    refine e_load q_127 rfl rfl rfl ?_
    refine e_getR q_127 rfl rfl rfl ?_
    refine e_load q_127 rfl rfl rfl ?_
    refine e_load q_127 rfl rfl rfl ?_
    refine e_getR q_127 rfl rfl rfl ?_
    refine e_push q_127 rfl ?_
    refine e_load q_127 rfl rfl rfl ?_
    refine e_getI q_127 rfl rfl rfl ?_
    refine e_bin (r := 86 * (σ 60 2)) q_127 rfl rfl ?_
    refine e_load q_127 rfl rfl rfl ?_
    refine e_bin (r := (86 * (σ 60 2)) + x1) q_127 rfl rfl ?_
    obtain ⟨j1, hjj1, hlj1, h⟩ := h
    refine e_iald q_127 rfl rfl (by decide) hjj1 hlj1 ?_
    obtain ⟨j2, hjj2, hlj2, h⟩ := h
    refine e_iast q_127 rfl rfl (by decide) hjj2 hlj2 ?_
    refine e_iinc (ls' := [some (.inr (some 60)), some (.inl (x1 + 1))]) q_127 rfl rfl rfl ?_
    refine e_goto q_127 rfl ?_
    exact h
theorem g_127_6 {S : Nat × (Nat → Int32)} {d : Nat} {σ : Mem} {Q : MQ1} {o0 : Option MV} {o1 : Option MV} {y0 : Int32}  (h : Q [.inl y0] σ) : Ev S (d + 1) 127 6 [o0, o1] [.inl y0] σ Q := by
  exact e_ireturn q_127 rfl rfl h
theorem q_128 : m_code 128 = mc_128 := rfl
theorem g_128_0 {S : Nat × (Nat → Int32)} {d : Nat} {σ : Mem} {Q : MQ1} {x1 : Int32} {x2 : Int32}  (h : Ec S d 119 [.inl x1, .inl 0, .inl 3] σ (fun rv σ' => Ev S (d + 1) 128 4 [some (.inr (some 60)), some (.inl x1), some (.inl x2), none, none] (rv ++ []) σ' Q)) : Ev S (d + 1) 128 0 [some (.inr (some 60)), some (.inl x1), some (.inl x2), none, none] [] σ Q := by
  refine e_load q_128 rfl rfl rfl ?_
  refine e_push q_128 rfl ?_
  refine e_push q_128 rfl ?_
  exact e_stat q_128 rfl (Nat.le_of_ble_eq_true rfl) rfl rfl (Nat.le_of_ble_eq_true rfl) h
theorem g_128_4 {S : Nat × (Nat → Int32)} {d : Nat} {σ : Mem} {Q : MQ1} {x1 : Int32} {x2 : Int32} {o3 : Option MV} {o4 : Option MV} {y0 : Int32}  (h : ((y0 = 0 → Ec S d 118 [.inr (some 60), .inl (-100001)] σ (fun rv σ' => Ev S (d + 1) 128 13 [some (.inr (some 60)), some (.inl x1), some (.inl x2), o3, o4] (rv ++ []) σ' Q)) ∧ (¬ (y0 = 0) → Ec S d 119 [.inl x2, .inl 1, .inl 9] σ (fun rv σ' => Ev S (d + 1) 128 9 [some (.inr (some 60)), some (.inl x1), some (.inl x2), o3, o4] (rv ++ []) σ' Q)))) : Ev S (d + 1) 128 4 [some (.inr (some 60)), some (.inl x1), some (.inl x2), o3, o4] [.inl y0] σ Q := by
  refine e_if (P := y0 = 0) q_128 rfl m_c0 (fun c => ?_) (fun c => ?_)
  · replace h := h.1 c
    refine e_load q_128 rfl rfl rfl ?_
    refine e_push q_128 rfl ?_
    exact e_virt q_128 rfl rfl (Nat.le_of_ble_eq_true rfl) rfl rfl (Nat.le_of_ble_eq_true rfl) rfl h
  · replace h := h.2 c
    refine e_load q_128 rfl rfl rfl ?_
    refine e_push q_128 rfl ?_
    refine e_push q_128 rfl ?_
    exact e_stat q_128 rfl (Nat.le_of_ble_eq_true rfl) rfl rfl (Nat.le_of_ble_eq_true rfl) h
theorem g_128_13 {S : Nat × (Nat → Int32)} {d : Nat} {σ : Mem} {Q : MQ1} {o0 : Option MV} {o1 : Option MV} {o2 : Option MV} {o3 : Option MV} {o4 : Option MV} {y0 : Int32}  (h : Q [.inl y0] σ) : Ev S (d + 1) 128 13 [o0, o1, o2, o3, o4] [.inl y0] σ Q := by
  exact e_ireturn q_128 rfl rfl h
theorem g_128_9 {S : Nat × (Nat → Int32)} {d : Nat} {σ : Mem} {Q : MQ1} {x1 : Int32} {x2 : Int32} {o3 : Option MV} {o4 : Option MV} {y0 : Int32}  (h : (((¬ y0 = 0) → (((¬ (σ 61 0) = 8) → Ec S d 126 [.inr (some 60)] σ (fun rv σ' => Ev S (d + 1) 128 26 [some (.inr (some 60)), some (.inl x1), some (.inl x2), o3, o4] (rv ++ []) σ' Q)) ∧ (¬ (¬ (σ 61 0) = 8) → Ec S d 118 [.inr (some 60), .inl (-100005)] σ (fun rv σ' => Ev S (d + 1) 128 23 [some (.inr (some 60)), some (.inl x1), some (.inl x2), o3, o4] (rv ++ []) σ' Q)))) ∧ (¬ (¬ y0 = 0) → Ec S d 118 [.inr (some 60), .inl (-100001)] σ (fun rv σ' => Ev S (d + 1) 128 13 [some (.inr (some 60)), some (.inl x1), some (.inl x2), o3, o4] (rv ++ []) σ' Q)))) : Ev S (d + 1) 128 9 [some (.inr (some 60)), some (.inl x1), some (.inl x2), o3, o4] [.inl y0] σ Q := by
  refine e_if (P := ¬ y0 = 0) q_128 rfl m_c1 (fun c => ?_) (fun c => ?_)
  · replace h := h.1 c
    refine e_load q_128 rfl rfl rfl ?_
    refine e_getR q_128 rfl rfl rfl ?_
    refine e_push q_128 rfl ?_
    refine e_iald (j := 0) q_128 rfl rfl (by decide) (by decide +kernel) (by decide) ?_
    refine e_push q_128 rfl ?_
    refine e_icmp (P := ¬ (σ 61 0) = 8) q_128 rfl m_c1 (fun c => ?_) (fun c => ?_)
    · replace h := h.1 c
      refine e_load q_128 rfl rfl rfl ?_
      exact e_virt q_128 rfl rfl (Nat.le_of_ble_eq_true rfl) rfl rfl (Nat.le_of_ble_eq_true rfl) rfl h
    · replace h := h.2 c
      refine e_load q_128 rfl rfl rfl ?_
      refine e_push q_128 rfl ?_
      exact e_virt q_128 rfl rfl (Nat.le_of_ble_eq_true rfl) rfl rfl (Nat.le_of_ble_eq_true rfl) rfl h
  · replace h := h.2 c
    refine e_load q_128 rfl rfl rfl ?_
    refine e_push q_128 rfl ?_
    exact e_virt q_128 rfl rfl (Nat.le_of_ble_eq_true rfl) rfl rfl (Nat.le_of_ble_eq_true rfl) rfl h
theorem g_128_26 {S : Nat × (Nat → Int32)} {d : Nat} {σ : Mem} {Q : MQ1} {x1 : Int32} {x2 : Int32} {o3 : Option MV} {o4 : Option MV}  (h : Ev S (d + 1) 128 33 [some (.inr (some 60)), some (.inl x1), some (.inl x2), some (.inl (σ 61 0)), some (.inl 0)] [] σ Q) : Ev S (d + 1) 128 26 [some (.inr (some 60)), some (.inl x1), some (.inl x2), o3, o4] [] σ Q := by
  refine e_load q_128 rfl rfl rfl ?_
  refine e_getR q_128 rfl rfl rfl ?_
  refine e_push q_128 rfl ?_
  refine e_iald (j := 0) q_128 rfl rfl (by decide) (by decide +kernel) (by decide) ?_
  refine e_store (ls' := [some (.inr (some 60)), some (.inl x1), some (.inl x2), some (.inl (σ 61 0)), o4]) q_128 rfl (Nat.le_of_ble_eq_true rfl) rfl rfl ?_
  refine e_push q_128 rfl ?_
  refine e_store (ls' := [some (.inr (some 60)), some (.inl x1), some (.inl x2), some (.inl (σ 61 0)), some (.inl 0)]) q_128 rfl (Nat.le_of_ble_eq_true rfl) rfl rfl ?_
  exact h
theorem g_128_23 {S : Nat × (Nat → Int32)} {d : Nat} {σ : Mem} {Q : MQ1} {o0 : Option MV} {o1 : Option MV} {o2 : Option MV} {o3 : Option MV} {o4 : Option MV} {y0 : Int32}  (h : Q [.inl y0] σ) : Ev S (d + 1) 128 23 [o0, o1, o2, o3, o4] [.inl y0] σ Q := by
  exact e_ireturn q_128 rfl rfl h
theorem g_128_33 {S : Nat × (Nat → Int32)} {d : Nat} {σ : Mem} {Q : MQ1} {x1 : Int32} {x2 : Int32} {x3 : Int32} {x4 : Int32}  (h : ((9 ≤ x4 → Ec S d 123 [.inr (some 60), .inl x3, .inl 0, .inl x1] σ (fun rv σ' => Ev S (d + 1) 128 48 [some (.inr (some 60)), some (.inl x1), some (.inl x2), some (.inl x3), some (.inl x4)] (rv ++ []) σ' Q)) ∧ (¬ (9 ≤ x4) → Ec S d 123 [.inr (some 60), .inl x3, .inl x4, .inl 0] σ (fun rv σ' => Ev S (d + 1) 128 41 [some (.inr (some 60)), some (.inl x1), some (.inl x2), some (.inl x3), some (.inl x4)] (rv ++ []) σ' Q)))) : Ev S (d + 1) 128 33 [some (.inr (some 60)), some (.inl x1), some (.inl x2), some (.inl x3), some (.inl x4)] [] σ Q := by
  refine e_load q_128 rfl rfl rfl ?_
  refine e_push q_128 rfl ?_
  refine e_icmp (P := 9 ≤ x4) q_128 rfl m_c3 (fun c => ?_) (fun c => ?_)
  · replace h := h.1 c
    refine e_load q_128 rfl rfl rfl ?_
    refine e_load q_128 rfl rfl rfl ?_
    refine e_push q_128 rfl ?_
    refine e_load q_128 rfl rfl rfl ?_
    exact e_virt q_128 rfl rfl (Nat.le_of_ble_eq_true rfl) rfl rfl (Nat.le_of_ble_eq_true rfl) rfl h
  · replace h := h.2 c
    refine e_load q_128 rfl rfl rfl ?_
    refine e_load q_128 rfl rfl rfl ?_
    refine e_load q_128 rfl rfl rfl ?_
    refine e_push q_128 rfl ?_
    exact e_virt q_128 rfl rfl (Nat.le_of_ble_eq_true rfl) rfl rfl (Nat.le_of_ble_eq_true rfl) rfl h
theorem g_128_48 {S : Nat × (Nat → Int32)} {d : Nat} {σ : Mem} {Q : MQ1} {o1 : Option MV} {x2 : Int32} {x3 : Int32} {o4 : Option MV}  (h : Ec S d 123 [.inr (some 60), .inl x3, .inl 1, .inl x2] σ (fun rv σ' => Ev S (d + 1) 128 53 [some (.inr (some 60)), o1, some (.inl x2), some (.inl x3), o4] (rv ++ []) σ' Q)) : Ev S (d + 1) 128 48 [some (.inr (some 60)), o1, some (.inl x2), some (.inl x3), o4] [] σ Q := by
  refine e_load q_128 rfl rfl rfl ?_
  refine e_load q_128 rfl rfl rfl ?_
  refine e_push q_128 rfl ?_
  refine e_load q_128 rfl rfl rfl ?_
  exact e_virt q_128 rfl rfl (Nat.le_of_ble_eq_true rfl) rfl rfl (Nat.le_of_ble_eq_true rfl) rfl h
theorem g_128_41 {S : Nat × (Nat → Int32)} {d : Nat} {σ : Mem} {Q : MQ1} {x1 : Int32} {x2 : Int32} {x3 : Int32} {x4 : Int32}  (h : Ev S (d + 1) 128 33 [some (.inr (some 60)), some (.inl x1), some (.inl x2), some (.inl x3), some (.inl (x4 + 1))] [] σ Q) : Ev S (d + 1) 128 41 [some (.inr (some 60)), some (.inl x1), some (.inl x2), some (.inl x3), some (.inl x4)] [] σ Q := by
  refine e_iinc (ls' := [some (.inr (some 60)), some (.inl x1), some (.inl x2), some (.inl x3), some (.inl (x4 + 1))]) q_128 rfl rfl rfl ?_
  refine e_goto q_128 rfl ?_
  exact h
theorem g_128_53 {S : Nat × (Nat → Int32)} {d : Nat} {σ : Mem} {Q : MQ1} {o1 : Option MV} {o2 : Option MV} {x3 : Int32} {o4 : Option MV}  (h : Ec S d 123 [.inr (some 60), .inl x3, .inl 5, .inl (-1)] σ (fun rv σ' => Ev S (d + 1) 128 58 [some (.inr (some 60)), o1, o2, some (.inl x3), o4] (rv ++ []) σ' Q)) : Ev S (d + 1) 128 53 [some (.inr (some 60)), o1, o2, some (.inl x3), o4] [] σ Q := by
  refine e_load q_128 rfl rfl rfl ?_
  refine e_load q_128 rfl rfl rfl ?_
  refine e_push q_128 rfl ?_
  refine e_push q_128 rfl ?_
  exact e_virt q_128 rfl rfl (Nat.le_of_ble_eq_true rfl) rfl rfl (Nat.le_of_ble_eq_true rfl) rfl h
theorem g_128_58 {S : Nat × (Nat → Int32)} {d : Nat} {σ : Mem} {Q : MQ1} {o1 : Option MV} {o2 : Option MV} {x3 : Int32} {o4 : Option MV}  (h : Ec S d 123 [.inr (some 60), .inl x3, .inl 6, .inl (-1)] σ (fun rv σ' => Ev S (d + 1) 128 63 [some (.inr (some 60)), o1, o2, some (.inl x3), o4] (rv ++ []) σ' Q)) : Ev S (d + 1) 128 58 [some (.inr (some 60)), o1, o2, some (.inl x3), o4] [] σ Q := by
  refine e_load q_128 rfl rfl rfl ?_
  refine e_load q_128 rfl rfl rfl ?_
  refine e_push q_128 rfl ?_
  refine e_push q_128 rfl ?_
  exact e_virt q_128 rfl rfl (Nat.le_of_ble_eq_true rfl) rfl rfl (Nat.le_of_ble_eq_true rfl) rfl h
theorem g_128_63 {S : Nat × (Nat → Int32)} {d : Nat} {σ : Mem} {Q : MQ1} {o1 : Option MV} {o2 : Option MV} {x3 : Int32} {o4 : Option MV}  (h : Ec S d 123 [.inr (some 60), .inl x3, .inl 7, .inl (-1)] σ (fun rv σ' => Ev S (d + 1) 128 68 [some (.inr (some 60)), o1, o2, some (.inl x3), o4] (rv ++ []) σ' Q)) : Ev S (d + 1) 128 63 [some (.inr (some 60)), o1, o2, some (.inl x3), o4] [] σ Q := by
  refine e_load q_128 rfl rfl rfl ?_
  refine e_load q_128 rfl rfl rfl ?_
  refine e_push q_128 rfl ?_
  refine e_push q_128 rfl ?_
  exact e_virt q_128 rfl rfl (Nat.le_of_ble_eq_true rfl) rfl rfl (Nat.le_of_ble_eq_true rfl) rfl h
theorem g_128_68 {S : Nat × (Nat → Int32)} {d : Nat} {σ : Mem} {Q : MQ1} {o1 : Option MV} {o2 : Option MV} {x3 : Int32} {o4 : Option MV}  (h : Q [.inl x3] (up σ 61 0 ((σ 61 0) + 1))) : Ev S (d + 1) 128 68 [some (.inr (some 60)), o1, o2, some (.inl x3), o4] [] σ Q := by
  refine e_load q_128 rfl rfl rfl ?_
  refine e_getR q_128 rfl rfl rfl ?_
  refine e_push q_128 rfl ?_
  refine e_dup2 q_128 rfl ?_
  refine e_iald (j := 0) q_128 rfl rfl (by decide) (by decide +kernel) (by decide) ?_
  refine e_push q_128 rfl ?_
  refine e_bin (r := (σ 61 0) + 1) q_128 rfl rfl ?_
  refine e_iast (j := 0) q_128 rfl rfl (by decide) (by decide +kernel) (by decide) ?_
  refine e_load q_128 rfl rfl rfl ?_
  exact e_ireturn q_128 rfl rfl h
theorem q_129 : m_code 129 = mc_129 := rfl
theorem g_129_0 {S : Nat × (Nat → Int32)} {d : Nat} {σ : Mem} {Q : MQ1} {x1 : Int32} {x2 : Int32}  (h : Ec S d 120 [.inr (some 60), .inl x1] σ (fun rv σ' => Ev S (d + 1) 129 3 [some (.inr (some 60)), some (.inl x1), some (.inl x2), none] (rv ++ []) σ' Q)) : Ev S (d + 1) 129 0 [some (.inr (some 60)), some (.inl x1), some (.inl x2), none] [] σ Q := by
  refine e_load q_129 rfl rfl rfl ?_
  refine e_load q_129 rfl rfl rfl ?_
  exact e_virt q_129 rfl rfl (Nat.le_of_ble_eq_true rfl) rfl rfl (Nat.le_of_ble_eq_true rfl) rfl h
theorem g_129_3 {S : Nat × (Nat → Int32)} {d : Nat} {σ : Mem} {Q : MQ1} {x1 : Int32} {x2 : Int32} {o3 : Option MV} {y0 : Int32}  (h : ((y0 = 0 → Ec S d 118 [.inr (some 60), .inl (-100001)] σ (fun rv σ' => Ev S (d + 1) 129 12 [some (.inr (some 60)), some (.inl x1), some (.inl x2), o3] (rv ++ []) σ' Q)) ∧ (¬ (y0 = 0) → Ec S d 119 [.inl x2, .inl 0, .inl 3] σ (fun rv σ' => Ev S (d + 1) 129 8 [some (.inr (some 60)), some (.inl x1), some (.inl x2), o3] (rv ++ []) σ' Q)))) : Ev S (d + 1) 129 3 [some (.inr (some 60)), some (.inl x1), some (.inl x2), o3] [.inl y0] σ Q := by
  refine e_if (P := y0 = 0) q_129 rfl m_c0 (fun c => ?_) (fun c => ?_)
  · replace h := h.1 c
    refine e_load q_129 rfl rfl rfl ?_
    refine e_push q_129 rfl ?_
    exact e_virt q_129 rfl rfl (Nat.le_of_ble_eq_true rfl) rfl rfl (Nat.le_of_ble_eq_true rfl) rfl h
  · replace h := h.2 c
    refine e_load q_129 rfl rfl rfl ?_
    refine e_push q_129 rfl ?_
    refine e_push q_129 rfl ?_
    exact e_stat q_129 rfl (Nat.le_of_ble_eq_true rfl) rfl rfl (Nat.le_of_ble_eq_true rfl) h
theorem g_129_12 {S : Nat × (Nat → Int32)} {d : Nat} {σ : Mem} {Q : MQ1} {o0 : Option MV} {o1 : Option MV} {o2 : Option MV} {o3 : Option MV} {y0 : Int32}  (h : Q [.inl y0] σ) : Ev S (d + 1) 129 12 [o0, o1, o2, o3] [.inl y0] σ Q := by
  exact e_ireturn q_129 rfl rfl h
theorem g_129_8 {S : Nat × (Nat → Int32)} {d : Nat} {σ : Mem} {Q : MQ1} {x1 : Int32} {x2 : Int32} {o3 : Option MV} {y0 : Int32}  (h : (((¬ y0 = 0) → Ec S d 122 [.inr (some 60), .inl x1, .inl 0] σ (fun rv σ' => Ev S (d + 1) 129 17 [some (.inr (some 60)), some (.inl x1), some (.inl x2), o3] (rv ++ []) σ' Q)) ∧ (¬ (¬ y0 = 0) → Ec S d 118 [.inr (some 60), .inl (-100001)] σ (fun rv σ' => Ev S (d + 1) 129 12 [some (.inr (some 60)), some (.inl x1), some (.inl x2), o3] (rv ++ []) σ' Q)))) : Ev S (d + 1) 129 8 [some (.inr (some 60)), some (.inl x1), some (.inl x2), o3] [.inl y0] σ Q := by
  refine e_if (P := ¬ y0 = 0) q_129 rfl m_c1 (fun c => ?_) (fun c => ?_)
  · replace h := h.1 c
    refine e_load q_129 rfl rfl rfl ?_
    refine e_load q_129 rfl rfl rfl ?_
    refine e_push q_129 rfl ?_
    exact e_virt q_129 rfl rfl (Nat.le_of_ble_eq_true rfl) rfl rfl (Nat.le_of_ble_eq_true rfl) rfl h
  · replace h := h.2 c
    refine e_load q_129 rfl rfl rfl ?_
    refine e_push q_129 rfl ?_
    exact e_virt q_129 rfl rfl (Nat.le_of_ble_eq_true rfl) rfl rfl (Nat.le_of_ble_eq_true rfl) rfl h
theorem g_129_17 {S : Nat × (Nat → Int32)} {d : Nat} {σ : Mem} {Q : MQ1} {x1 : Int32} {x2 : Int32} {o3 : Option MV} {y0 : Int32}  (h : ((x2 = 0 → Q [.inl x1] σ) ∧ (¬ (x2 = 0) → ((x2 = y0 → Q [.inl x1] σ) ∧ (¬ (x2 = y0) → (((¬ x2 = 1) → Ec S d 118 [.inr (some 60), .inl (-100004)] σ (fun rv σ' => Ev S (d + 1) 129 34 [some (.inr (some 60)), some (.inl x1), some (.inl x2), some (.inl y0)] (rv ++ []) σ' Q)) ∧ (¬ (¬ x2 = 1) → (((¬ y0 = 3) → Ec S d 118 [.inr (some 60), .inl (-100004)] σ (fun rv σ' => Ev S (d + 1) 129 34 [some (.inr (some 60)), some (.inl x1), some (.inl x2), some (.inl y0)] (rv ++ []) σ' Q)) ∧ (¬ (¬ y0 = 3) → Q [.inl x1] σ))))))))) : Ev S (d + 1) 129 17 [some (.inr (some 60)), some (.inl x1), some (.inl x2), o3] [.inl y0] σ Q := by
  refine e_store (ls' := [some (.inr (some 60)), some (.inl x1), some (.inl x2), some (.inl y0)]) q_129 rfl (Nat.le_of_ble_eq_true rfl) rfl rfl ?_
  refine e_load q_129 rfl rfl rfl ?_
  refine e_if (P := x2 = 0) q_129 rfl m_c0 (fun c => ?_) (fun c => ?_)
  · replace h := h.1 c
    refine e_load q_129 rfl rfl rfl ?_
    refine e_goto q_129 rfl ?_
    exact e_ireturn q_129 rfl rfl h
  · replace h := h.2 c
    refine e_load q_129 rfl rfl rfl ?_
    refine e_load q_129 rfl rfl rfl ?_
    refine e_icmp (P := x2 = y0) q_129 rfl m_c0 (fun c => ?_) (fun c => ?_)
    · replace h := h.1 c
      refine e_load q_129 rfl rfl rfl ?_
      refine e_goto q_129 rfl ?_
      exact e_ireturn q_129 rfl rfl h
    · replace h := h.2 c
      refine e_load q_129 rfl rfl rfl ?_
      refine e_push q_129 rfl ?_
      refine e_icmp (P := ¬ x2 = 1) q_129 rfl m_c1 (fun c => ?_) (fun c => ?_)
      · replace h := h.1 c
        refine e_load q_129 rfl rfl rfl ?_
        refine e_push q_129 rfl ?_
        exact e_virt q_129 rfl rfl (Nat.le_of_ble_eq_true rfl) rfl rfl (Nat.le_of_ble_eq_true rfl) rfl h
      · replace h := h.2 c
        refine e_load q_129 rfl rfl rfl ?_
        refine e_push q_129 rfl ?_
        refine e_icmp (P := ¬ y0 = 3) q_129 rfl m_c1 (fun c => ?_) (fun c => ?_)
        · replace h := h.1 c
          refine e_load q_129 rfl rfl rfl ?_
          refine e_push q_129 rfl ?_
          exact e_virt q_129 rfl rfl (Nat.le_of_ble_eq_true rfl) rfl rfl (Nat.le_of_ble_eq_true rfl) rfl h
        · replace h := h.2 c
          refine e_load q_129 rfl rfl rfl ?_
          refine e_goto q_129 rfl ?_
          exact e_ireturn q_129 rfl rfl h
theorem g_129_34 {S : Nat × (Nat → Int32)} {d : Nat} {σ : Mem} {Q : MQ1} {o0 : Option MV} {o1 : Option MV} {o2 : Option MV} {o3 : Option MV} {y0 : Int32}  (h : Q [.inl y0] σ) : Ev S (d + 1) 129 34 [o0, o1, o2, o3] [.inl y0] σ Q := by
  exact e_ireturn q_129 rfl rfl h
theorem q_130 : m_code 130 = mc_130 := rfl
theorem g_130_0 {S : Nat × (Nat → Int32)} {d : Nat} {σ : Mem} {Q : MQ1} {x1 : Int32}  (h : Ec S d 122 [.inr (some 60), .inl x1, .inl 2] σ (fun rv σ' => Ev S (d + 1) 130 4 [some (.inr (some 60)), some (.inl x1), none, none, none] (rv ++ []) σ' Q)) : Ev S (d + 1) 130 0 [some (.inr (some 60)), some (.inl x1), none, none, none] [] σ Q := by
  refine e_load q_130 rfl rfl rfl ?_
  refine e_load q_130 rfl rfl rfl ?_
  refine e_push q_130 rfl ?_
  exact e_virt q_130 rfl rfl (Nat.le_of_ble_eq_true rfl) rfl rfl (Nat.le_of_ble_eq_true rfl) rfl h
theorem g_130_4 {S : Nat × (Nat → Int32)} {d : Nat} {σ : Mem} {Q : MQ1} {o1 : Option MV} {o2 : Option MV} {o3 : Option MV} {o4 : Option MV} {y0 : Int32}  (h : Ev S (d + 1) 130 7 [some (.inr (some 60)), o1, some (.inl y0), some (.inl (-1)), o4] [] σ Q) : Ev S (d + 1) 130 4 [some (.inr (some 60)), o1, o2, o3, o4] [.inl y0] σ Q := by
  refine e_store (ls' := [some (.inr (some 60)), o1, some (.inl y0), o3, o4]) q_130 rfl (Nat.le_of_ble_eq_true rfl) rfl rfl ?_
  refine e_push q_130 rfl ?_
  refine e_store (ls' := [some (.inr (some 60)), o1, some (.inl y0), some (.inl (-1)), o4]) q_130 rfl (Nat.le_of_ble_eq_true rfl) rfl rfl ?_
  exact h
theorem g_130_7 {S : Nat × (Nat → Int32)} {d : Nat} {σ : Mem} {Q : MQ1} {o1 : Option MV} {x2 : Int32} {x3 : Int32} {o4 : Option MV}  (h : ((x3 = x2 → Q [.inl x2] σ) ∧ (¬ (x3 = x2) → Ev S (d + 1) 130 14 [some (.inr (some 60)), o1, some (.inl x2), some (.inl x2), some (.inl 0)] [] σ Q))) : Ev S (d + 1) 130 7 [some (.inr (some 60)), o1, some (.inl x2), some (.inl x3), o4] [] σ Q := by
  refine e_load q_130 rfl rfl rfl ?_
  refine e_load q_130 rfl rfl rfl ?_
  refine e_icmp (P := x3 = x2) q_130 rfl m_c0 (fun c => ?_) (fun c => ?_)
  · replace h := h.1 c
    refine e_load q_130 rfl rfl rfl ?_
    exact e_ireturn q_130 rfl rfl h
  · replace h := h.2 c
    refine e_load q_130 rfl rfl rfl ?_
    refine e_store (ls' := [some (.inr (some 60)), o1, some (.inl x2), some (.inl x2), o4]) q_130 rfl (Nat.le_of_ble_eq_true rfl) rfl rfl ?_
    refine e_push q_130 rfl ?_
    refine e_store (ls' := [some (.inr (some 60)), o1, some (.inl x2), some (.inl x2), some (.inl 0)]) q_130 rfl (Nat.le_of_ble_eq_true rfl) rfl rfl ?_
    exact h
theorem g_130_14 {S : Nat × (Nat → Int32)} {d : Nat} {σ : Mem} {Q : MQ1} {o1 : Option MV} {x2 : Int32} {x3 : Int32} {x4 : Int32}  (h : (((σ 61 0) ≤ x4 → Ev S (d + 1) 130 7 [some (.inr (some 60)), o1, some (.inl x2), some (.inl x3), some (.inl x4)] [] σ Q) ∧ (¬ ((σ 61 0) ≤ x4) → (((¬ ((x2 >>> (x4 &&& 31)) &&& 1) = 1) → Ev S (d + 1) 130 14 [some (.inr (some 60)), o1, some (.inl (x2 ||| 0)), some (.inl x3), some (.inl (x4 + 1))] [] σ Q) ∧ (¬ (¬ ((x2 >>> (x4 &&& 31)) &&& 1) = 1) → Ec S d 122 [.inr (some 60), .inl x4, .inl 2] σ (fun rv σ' => Ev S (d + 1) 130 32 [some (.inr (some 60)), o1, some (.inl x2), some (.inl x3), some (.inl x4)] (rv ++ [.inl x2]) σ' Q)))))) : Ev S (d + 1) 130 14 [some (.inr (some 60)), o1, some (.inl x2), some (.inl x3), some (.inl x4)] [] σ Q := by
  refine e_load q_130 rfl rfl rfl ?_
  refine e_load q_130 rfl rfl rfl ?_
  refine e_getR q_130 rfl rfl rfl ?_
  refine e_push q_130 rfl ?_
  refine e_iald (j := 0) q_130 rfl rfl (by decide) (by decide +kernel) (by decide) ?_
  refine e_icmp (P := (σ 61 0) ≤ x4) q_130 rfl m_c3 (fun c => ?_) (fun c => ?_)
  · replace h := h.1 c
    refine e_goto q_130 rfl ?_
    exact h
  · replace h := h.2 c
    refine e_load q_130 rfl rfl rfl ?_
    refine e_load q_130 rfl rfl rfl ?_
    refine e_load q_130 rfl rfl rfl ?_
    refine e_bin (r := x2 >>> (x4 &&& 31)) q_130 rfl rfl ?_
    refine e_push q_130 rfl ?_
    refine e_bin (r := (x2 >>> (x4 &&& 31)) &&& 1) q_130 rfl rfl ?_
    refine e_push q_130 rfl ?_
    refine e_icmp (P := ¬ ((x2 >>> (x4 &&& 31)) &&& 1) = 1) q_130 rfl m_c1 (fun c => ?_) (fun c => ?_)
    · replace h := h.1 c
      refine e_push q_130 rfl ?_
      refine e_bin (r := x2 ||| 0) q_130 rfl rfl ?_
      refine e_store (ls' := [some (.inr (some 60)), o1, some (.inl (x2 ||| 0)), some (.inl x3), some (.inl x4)]) q_130 rfl (Nat.le_of_ble_eq_true rfl) rfl rfl ?_
      refine e_iinc (ls' := [some (.inr (some 60)), o1, some (.inl (x2 ||| 0)), some (.inl x3), some (.inl (x4 + 1))]) q_130 rfl rfl rfl ?_
      refine e_goto q_130 rfl ?_
      exact h
    · replace h := h.2 c
      refine e_load q_130 rfl rfl rfl ?_
      refine e_load q_130 rfl rfl rfl ?_
      refine e_push q_130 rfl ?_
      exact e_virt q_130 rfl rfl (Nat.le_of_ble_eq_true rfl) rfl rfl (Nat.le_of_ble_eq_true rfl) rfl h
theorem g_130_32 {S : Nat × (Nat → Int32)} {d : Nat} {σ : Mem} {Q : MQ1} {o1 : Option MV} {o2 : Option MV} {x3 : Int32} {x4 : Int32} {y0 : Int32} {y1 : Int32}  (h : Ev S (d + 1) 130 14 [some (.inr (some 60)), o1, some (.inl (y0 ||| y1)), some (.inl x3), some (.inl (x4 + 1))] [] σ Q) : Ev S (d + 1) 130 32 [some (.inr (some 60)), o1, o2, some (.inl x3), some (.inl x4)] [.inl y1, .inl y0] σ Q := by
  refine e_goto q_130 rfl ?_
  refine e_bin (r := y0 ||| y1) q_130 rfl rfl ?_
  refine e_store (ls' := [some (.inr (some 60)), o1, some (.inl (y0 ||| y1)), some (.inl x3), some (.inl x4)]) q_130 rfl (Nat.le_of_ble_eq_true rfl) rfl rfl ?_
  refine e_iinc (ls' := [some (.inr (some 60)), o1, some (.inl (y0 ||| y1)), some (.inl x3), some (.inl (x4 + 1))]) q_130 rfl rfl rfl ?_
  refine e_goto q_130 rfl ?_
  exact h
theorem q_131 : m_code 131 = mc_131 := rfl
theorem g_131_0 {S : Nat × (Nat → Int32)} {d : Nat} {σ : Mem} {Q : MQ1} {x1 : Int32} {x2 : Int32} {x3 : Int32}  (h : Ec S d 120 [.inr (some 60), .inl x1] σ (fun rv σ' => Ev S (d + 1) 131 3 [some (.inr (some 60)), some (.inl x1), some (.inl x2), some (.inl x3), none] (rv ++ []) σ' Q)) : Ev S (d + 1) 131 0 [some (.inr (some 60)), some (.inl x1), some (.inl x2), some (.inl x3), none] [] σ Q := by
  refine e_load q_131 rfl rfl rfl ?_
  refine e_load q_131 rfl rfl rfl ?_
  exact e_virt q_131 rfl rfl (Nat.le_of_ble_eq_true rfl) rfl rfl (Nat.le_of_ble_eq_true rfl) rfl h
theorem g_131_3 {S : Nat × (Nat → Int32)} {d : Nat} {σ : Mem} {Q : MQ1} {x1 : Int32} {x2 : Int32} {x3 : Int32} {o4 : Option MV} {y0 : Int32}  (h : ((y0 = 0 → Ec S d 118 [.inr (some 60), .inl (-100001)] σ (fun rv σ' => Ev S (d + 1) 131 11 [some (.inr (some 60)), some (.inl x1), some (.inl x2), some (.inl x3), o4] (rv ++ []) σ' Q)) ∧ (¬ (y0 = 0) → Ec S d 120 [.inr (some 60), .inl x2] σ (fun rv σ' => Ev S (d + 1) 131 7 [some (.inr (some 60)), some (.inl x1), some (.inl x2), some (.inl x3), o4] (rv ++ []) σ' Q)))) : Ev S (d + 1) 131 3 [some (.inr (some 60)), some (.inl x1), some (.inl x2), some (.inl x3), o4] [.inl y0] σ Q := by
  refine e_if (P := y0 = 0) q_131 rfl m_c0 (fun c => ?_) (fun c => ?_)
  · replace h := h.1 c
    refine e_load q_131 rfl rfl rfl ?_
    refine e_push q_131 rfl ?_
    exact e_virt q_131 rfl rfl (Nat.le_of_ble_eq_true rfl) rfl rfl (Nat.le_of_ble_eq_true rfl) rfl h
  · replace h := h.2 c
    refine e_load q_131 rfl rfl rfl ?_
    refine e_load q_131 rfl rfl rfl ?_
    exact e_virt q_131 rfl rfl (Nat.le_of_ble_eq_true rfl) rfl rfl (Nat.le_of_ble_eq_true rfl) rfl h
theorem g_131_11 {S : Nat × (Nat → Int32)} {d : Nat} {σ : Mem} {Q : MQ1} {o0 : Option MV} {o1 : Option MV} {o2 : Option MV} {o3 : Option MV} {o4 : Option MV} {y0 : Int32}  (h : Q [.inl y0] σ) : Ev S (d + 1) 131 11 [o0, o1, o2, o3, o4] [.inl y0] σ Q := by
  exact e_ireturn q_131 rfl rfl h
theorem g_131_7 {S : Nat × (Nat → Int32)} {d : Nat} {σ : Mem} {Q : MQ1} {x1 : Int32} {x2 : Int32} {x3 : Int32} {o4 : Option MV} {y0 : Int32}  (h : (((¬ y0 = 0) → ((x3 = 0 → Ec S d 126 [.inr (some 60)] σ (fun rv σ' => Ev S (d + 1) 131 32 [some (.inr (some 60)), some (.inl x1), some (.inl x2), some (.inl x3), o4] (rv ++ []) σ' Q)) ∧ (¬ (x3 = 0) → ((x1 = x2 → Ec S d 118 [.inr (some 60), .inl (-100007)] σ (fun rv σ' => Ev S (d + 1) 131 29 [some (.inr (some 60)), some (.inl x1), some (.inl x2), some (.inl x3), o4] (rv ++ []) σ' Q)) ∧ (¬ (x1 = x2) → Ec S d 130 [.inr (some 60), .inl x2] σ (fun rv σ' => Ev S (d + 1) 131 20 [some (.inr (some 60)), some (.inl x1), some (.inl x2), some (.inl x3), o4] (rv ++ []) σ' Q)))))) ∧ (¬ (¬ y0 = 0) → Ec S d 118 [.inr (some 60), .inl (-100001)] σ (fun rv σ' => Ev S (d + 1) 131 11 [some (.inr (some 60)), some (.inl x1), some (.inl x2), some (.inl x3), o4] (rv ++ []) σ' Q)))) : Ev S (d + 1) 131 7 [some (.inr (some 60)), some (.inl x1), some (.inl x2), some (.inl x3), o4] [.inl y0] σ Q := by
  refine e_if (P := ¬ y0 = 0) q_131 rfl m_c1 (fun c => ?_) (fun c => ?_)
  · replace h := h.1 c
    refine e_load q_131 rfl rfl rfl ?_
    refine e_if (P := x3 = 0) q_131 rfl m_c0 (fun c => ?_) (fun c => ?_)
    · replace h := h.1 c
      refine e_load q_131 rfl rfl rfl ?_
      exact e_virt q_131 rfl rfl (Nat.le_of_ble_eq_true rfl) rfl rfl (Nat.le_of_ble_eq_true rfl) rfl h
    · replace h := h.2 c
      refine e_load q_131 rfl rfl rfl ?_
      refine e_load q_131 rfl rfl rfl ?_
      refine e_icmp (P := x1 = x2) q_131 rfl m_c0 (fun c => ?_) (fun c => ?_)
      · replace h := h.1 c
        refine e_load q_131 rfl rfl rfl ?_
        refine e_push q_131 rfl ?_
        exact e_virt q_131 rfl rfl (Nat.le_of_ble_eq_true rfl) rfl rfl (Nat.le_of_ble_eq_true rfl) rfl h
      · replace h := h.2 c
        refine e_load q_131 rfl rfl rfl ?_
        refine e_load q_131 rfl rfl rfl ?_
        exact e_virt q_131 rfl rfl (Nat.le_of_ble_eq_true rfl) rfl rfl (Nat.le_of_ble_eq_true rfl) rfl h
  · replace h := h.2 c
    refine e_load q_131 rfl rfl rfl ?_
    refine e_push q_131 rfl ?_
    exact e_virt q_131 rfl rfl (Nat.le_of_ble_eq_true rfl) rfl rfl (Nat.le_of_ble_eq_true rfl) rfl h
theorem g_131_32 {S : Nat × (Nat → Int32)} {d : Nat} {σ : Mem} {Q : MQ1} {x1 : Int32} {x2 : Int32} {x3 : Int32} {o4 : Option MV}  (h : Ec S d 122 [.inr (some 60), .inl x1, .inl 2] σ (fun rv σ' => Ev S (d + 1) 131 36 [some (.inr (some 60)), some (.inl x1), some (.inl x2), some (.inl x3), o4] (rv ++ []) σ' Q)) : Ev S (d + 1) 131 32 [some (.inr (some 60)), some (.inl x1), some (.inl x2), some (.inl x3), o4] [] σ Q := by
  refine e_load q_131 rfl rfl rfl ?_
  refine e_load q_131 rfl rfl rfl ?_
  refine e_push q_131 rfl ?_
  exact e_virt q_131 rfl rfl (Nat.le_of_ble_eq_true rfl) rfl rfl (Nat.le_of_ble_eq_true rfl) rfl h
theorem g_131_29 {S : Nat × (Nat → Int32)} {d : Nat} {σ : Mem} {Q : MQ1} {o0 : Option MV} {o1 : Option MV} {o2 : Option MV} {o3 : Option MV} {o4 : Option MV} {y0 : Int32}  (h : Q [.inl y0] σ) : Ev S (d + 1) 131 29 [o0, o1, o2, o3, o4] [.inl y0] σ Q := by
  exact e_ireturn q_131 rfl rfl h
theorem g_131_20 {S : Nat × (Nat → Int32)} {d : Nat} {σ : Mem} {Q : MQ1} {x1 : Int32} {x2 : Int32} {x3 : Int32} {o4 : Option MV} {y0 : Int32}  (h : (((¬ ((y0 >>> (x1 &&& 31)) &&& 1) = 1) → Ec S d 126 [.inr (some 60)] σ (fun rv σ' => Ev S (d + 1) 131 32 [some (.inr (some 60)), some (.inl x1), some (.inl x2), some (.inl x3), o4] (rv ++ []) σ' Q)) ∧ (¬ (¬ ((y0 >>> (x1 &&& 31)) &&& 1) = 1) → Ec S d 118 [.inr (some 60), .inl (-100007)] σ (fun rv σ' => Ev S (d + 1) 131 29 [some (.inr (some 60)), some (.inl x1), some (.inl x2), some (.inl x3), o4] (rv ++ []) σ' Q)))) : Ev S (d + 1) 131 20 [some (.inr (some 60)), some (.inl x1), some (.inl x2), some (.inl x3), o4] [.inl y0] σ Q := by
  refine e_load q_131 rfl rfl rfl ?_
  refine e_bin (r := y0 >>> (x1 &&& 31)) q_131 rfl rfl ?_
  refine e_push q_131 rfl ?_
  refine e_bin (r := (y0 >>> (x1 &&& 31)) &&& 1) q_131 rfl rfl ?_
  refine e_push q_131 rfl ?_
  refine e_icmp (P := ¬ ((y0 >>> (x1 &&& 31)) &&& 1) = 1) q_131 rfl m_c1 (fun c => ?_) (fun c => ?_)
  · replace h := h.1 c
    refine e_load q_131 rfl rfl rfl ?_
    exact e_virt q_131 rfl rfl (Nat.le_of_ble_eq_true rfl) rfl rfl (Nat.le_of_ble_eq_true rfl) rfl h
  · replace h := h.2 c
    refine e_load q_131 rfl rfl rfl ?_
    refine e_push q_131 rfl ?_
    exact e_virt q_131 rfl rfl (Nat.le_of_ble_eq_true rfl) rfl rfl (Nat.le_of_ble_eq_true rfl) rfl h
theorem g_131_36 {S : Nat × (Nat → Int32)} {d : Nat} {σ : Mem} {Q : MQ1} {x1 : Int32} {x2 : Int32} {x3 : Int32} {o4 : Option MV} {y0 : Int32}  (h : ((x3 = 0 → Ec S d 122 [.inr (some 60), .inl x1, .inl 2] σ (fun rv σ' => Ev S (d + 1) 131 59 [some (.inr (some 60)), some (.inl x1), some (.inl x2), some (.inl x3), some (.inl ((y0 >>> (x2 &&& 31)) &&& 1))] (rv ++ [.inl 2, .inl x1, .inr (some 60)]) σ' Q)) ∧ (¬ (x3 = 0) → Ec S d 122 [.inr (some 60), .inl x1, .inl 2] σ (fun rv σ' => Ev S (d + 1) 131 50 [some (.inr (some 60)), some (.inl x1), some (.inl x2), some (.inl x3), some (.inl ((y0 >>> (x2 &&& 31)) &&& 1))] (rv ++ [.inl 2, .inl x1, .inr (some 60)]) σ' Q)))) : Ev S (d + 1) 131 36 [some (.inr (some 60)), some (.inl x1), some (.inl x2), some (.inl x3), o4] [.inl y0] σ Q := by
  refine e_load q_131 rfl rfl rfl ?_
  refine e_bin (r := y0 >>> (x2 &&& 31)) q_131 rfl rfl ?_
  refine e_push q_131 rfl ?_
  refine e_bin (r := (y0 >>> (x2 &&& 31)) &&& 1) q_131 rfl rfl ?_
  refine e_store (ls' := [some (.inr (some 60)), some (.inl x1), some (.inl x2), some (.inl x3), some (.inl ((y0 >>> (x2 &&& 31)) &&& 1))]) q_131 rfl (Nat.le_of_ble_eq_true rfl) rfl rfl ?_
  refine e_load q_131 rfl rfl rfl ?_
  refine e_load q_131 rfl rfl rfl ?_
  refine e_push q_131 rfl ?_
  refine e_load q_131 rfl rfl rfl ?_
  refine e_if (P := x3 = 0) q_131 rfl m_c0 (fun c => ?_) (fun c => ?_)
  · replace h := h.1 c
    refine e_load q_131 rfl rfl rfl ?_
    refine e_load q_131 rfl rfl rfl ?_
    refine e_push q_131 rfl ?_
    exact e_virt q_131 rfl rfl (Nat.le_of_ble_eq_true rfl) rfl rfl (Nat.le_of_ble_eq_true rfl) rfl h
  · replace h := h.2 c
    refine e_load q_131 rfl rfl rfl ?_
    refine e_load q_131 rfl rfl rfl ?_
    refine e_push q_131 rfl ?_
    exact e_virt q_131 rfl rfl (Nat.le_of_ble_eq_true rfl) rfl rfl (Nat.le_of_ble_eq_true rfl) rfl h
theorem g_131_59 {S : Nat × (Nat → Int32)} {d : Nat} {σ : Mem} {Q : MQ1} {o0 : Option MV} {o1 : Option MV} {x2 : Int32} {x3 : Int32} {x4 : Int32} {y1 : Int32} {y2 : Int32} {y3 : Int32}  (h : Ec S d 123 [.inr (some 60), .inl y1, .inl y2, .inl (y3 &&& ((1 <<< (x2 &&& 31)) ^^^ (-1)))] σ (fun rv σ' => Ev S (d + 1) 131 66 [o0, o1, some (.inl x2), some (.inl x3), some (.inl x4)] (rv ++ []) σ' Q)) : Ev S (d + 1) 131 59 [o0, o1, some (.inl x2), some (.inl x3), some (.inl x4)] [.inl y3, .inl y2, .inl y1, .inr (some 60)] σ Q := by
  refine e_push q_131 rfl ?_
  refine e_load q_131 rfl rfl rfl ?_
  refine e_bin (r := 1 <<< (x2 &&& 31)) q_131 rfl rfl ?_
  refine e_push q_131 rfl ?_
  refine e_bin (r := (1 <<< (x2 &&& 31)) ^^^ (-1)) q_131 rfl rfl ?_
  refine e_bin (r := y3 &&& ((1 <<< (x2 &&& 31)) ^^^ (-1))) q_131 rfl rfl ?_
  exact e_virt q_131 rfl rfl (Nat.le_of_ble_eq_true rfl) rfl rfl (Nat.le_of_ble_eq_true rfl) rfl h
theorem g_131_50 {S : Nat × (Nat → Int32)} {d : Nat} {σ : Mem} {Q : MQ1} {o0 : Option MV} {o1 : Option MV} {x2 : Int32} {x3 : Int32} {x4 : Int32} {y1 : Int32} {y2 : Int32} {y3 : Int32}  (h : Ec S d 123 [.inr (some 60), .inl y1, .inl y2, .inl (y3 ||| (1 <<< (x2 &&& 31)))] σ (fun rv σ' => Ev S (d + 1) 131 66 [o0, o1, some (.inl x2), some (.inl x3), some (.inl x4)] (rv ++ []) σ' Q)) : Ev S (d + 1) 131 50 [o0, o1, some (.inl x2), some (.inl x3), some (.inl x4)] [.inl y3, .inl y2, .inl y1, .inr (some 60)] σ Q := by
  refine e_push q_131 rfl ?_
  refine e_load q_131 rfl rfl rfl ?_
  refine e_bin (r := 1 <<< (x2 &&& 31)) q_131 rfl rfl ?_
  refine e_bin (r := y3 ||| (1 <<< (x2 &&& 31))) q_131 rfl rfl ?_
  refine e_goto q_131 rfl ?_
  exact e_virt q_131 rfl rfl (Nat.le_of_ble_eq_true rfl) rfl rfl (Nat.le_of_ble_eq_true rfl) rfl h
theorem g_131_66 {S : Nat × (Nat → Int32)} {d : Nat} {σ : Mem} {Q : MQ1} {o0 : Option MV} {o1 : Option MV} {o2 : Option MV} {x3 : Int32} {x4 : Int32}  (h : ((x3 = 0 → (((¬ x4 = 0) → Q [.inl 1] σ) ∧ (¬ (¬ x4 = 0) → Q [.inl 0] σ))) ∧ (¬ (x3 = 0) → (((¬ x4 = 1) → Q [.inl 1] σ) ∧ (¬ (¬ x4 = 1) → Q [.inl 0] σ))))) : Ev S (d + 1) 131 66 [o0, o1, o2, some (.inl x3), some (.inl x4)] [] σ Q := by
  refine e_load q_131 rfl rfl rfl ?_
  refine e_load q_131 rfl rfl rfl ?_
  refine e_if (P := x3 = 0) q_131 rfl m_c0 (fun c => ?_) (fun c => ?_)
  · replace h := h.1 c
    refine e_push q_131 rfl ?_
    refine e_icmp (P := ¬ x4 = 0) q_131 rfl m_c1 (fun c => ?_) (fun c => ?_)
    · replace h := h.1 c
      refine e_push q_131 rfl ?_
      exact e_ireturn q_131 rfl rfl h
    · replace h := h.2 c
      refine e_push q_131 rfl ?_
      refine e_goto q_131 rfl ?_
      exact e_ireturn q_131 rfl rfl h
  · replace h := h.2 c
    refine e_push q_131 rfl ?_
    refine e_goto q_131 rfl ?_
    refine e_icmp (P := ¬ x4 = 1) q_131 rfl m_c1 (fun c => ?_) (fun c => ?_)
    · replace h := h.1 c
      refine e_push q_131 rfl ?_
      exact e_ireturn q_131 rfl rfl h
    · replace h := h.2 c
      refine e_push q_131 rfl ?_
      refine e_goto q_131 rfl ?_
      exact e_ireturn q_131 rfl rfl h
theorem q_132 : m_code 132 = mc_132 := rfl
theorem g_132_0 {S : Nat × (Nat → Int32)} {d : Nat} {σ : Mem} {Q : MQ1} {x1 : Int32} {x2 : Int32} {x3 : Int32}  (h : Ec S d 126 [.inr (some 60)] σ (fun rv σ' => Ev S (d + 1) 132 2 [some (.inr (some 60)), some (.inl x1), some (.inl x2), some (.inl x3), none] (rv ++ []) σ' Q)) : Ev S (d + 1) 132 0 [some (.inr (some 60)), some (.inl x1), some (.inl x2), some (.inl x3), none] [] σ Q := by
  refine e_load q_132 rfl rfl rfl ?_
  exact e_virt q_132 rfl rfl (Nat.le_of_ble_eq_true rfl) rfl rfl (Nat.le_of_ble_eq_true rfl) rfl h
theorem g_132_2 {S : Nat × (Nat → Int32)} {d : Nat} {σ : Mem} {Q : MQ1} {x1 : Int32} {x2 : Int32} {x3 : Int32} {o4 : Option MV}  (h : Ec S d 122 [.inr (some 60), .inl x1, .inl x2] σ (fun rv σ' => Ev S (d + 1) 132 6 [some (.inr (some 60)), some (.inl x1), some (.inl x2), some (.inl x3), o4] (rv ++ []) σ' Q)) : Ev S (d + 1) 132 2 [some (.inr (some 60)), some (.inl x1), some (.inl x2), some (.inl x3), o4] [] σ Q := by
  refine e_load q_132 rfl rfl rfl ?_
  refine e_load q_132 rfl rfl rfl ?_
  refine e_load q_132 rfl rfl rfl ?_
  exact e_virt q_132 rfl rfl (Nat.le_of_ble_eq_true rfl) rfl rfl (Nat.le_of_ble_eq_true rfl) rfl h
theorem g_132_6 {S : Nat × (Nat → Int32)} {d : Nat} {σ : Mem} {Q : MQ1} {x1 : Int32} {x2 : Int32} {x3 : Int32} {o4 : Option MV} {y0 : Int32}  (h : Ec S d 123 [.inr (some 60), .inl x1, .inl x2, .inl x3] σ (fun rv σ' => Ev S (d + 1) 132 12 [some (.inr (some 60)), some (.inl x1), some (.inl x2), some (.inl x3), some (.inl y0)] (rv ++ []) σ' Q)) : Ev S (d + 1) 132 6 [some (.inr (some 60)), some (.inl x1), some (.inl x2), some (.inl x3), o4] [.inl y0] σ Q := by
  refine e_store (ls' := [some (.inr (some 60)), some (.inl x1), some (.inl x2), some (.inl x3), some (.inl y0)]) q_132 rfl (Nat.le_of_ble_eq_true rfl) rfl rfl ?_
  refine e_load q_132 rfl rfl rfl ?_
  refine e_load q_132 rfl rfl rfl ?_
  refine e_load q_132 rfl rfl rfl ?_
  refine e_load q_132 rfl rfl rfl ?_
  exact e_virt q_132 rfl rfl (Nat.le_of_ble_eq_true rfl) rfl rfl (Nat.le_of_ble_eq_true rfl) rfl h
theorem g_132_12 {S : Nat × (Nat → Int32)} {d : Nat} {σ : Mem} {Q : MQ1} {o0 : Option MV} {o1 : Option MV} {o2 : Option MV} {o3 : Option MV} {x4 : Int32}  (h : Q [.inl x4] σ) : Ev S (d + 1) 132 12 [o0, o1, o2, o3, some (.inl x4)] [] σ Q := by
  refine e_load q_132 rfl rfl rfl ?_
  exact e_ireturn q_132 rfl rfl h
theorem q_133 : m_code 133 = mc_133 := rfl
theorem g_133_0 {S : Nat × (Nat → Int32)} {d : Nat} {σ : Mem} {Q : MQ1} {x1 : Int32} {x2 : Int32}  (h : Ec S d 120 [.inr (some 60), .inl x1] σ (fun rv σ' => Ev S (d + 1) 133 3 [some (.inr (some 60)), some (.inl x1), some (.inl x2)] (rv ++ []) σ' Q)) : Ev S (d + 1) 133 0 [some (.inr (some 60)), some (.inl x1), some (.inl x2)] [] σ Q := by
  refine e_load q_133 rfl rfl rfl ?_
  refine e_load q_133 rfl rfl rfl ?_
  exact e_virt q_133 rfl rfl (Nat.le_of_ble_eq_true rfl) rfl rfl (Nat.le_of_ble_eq_true rfl) rfl h
theorem g_133_3 {S : Nat × (Nat → Int32)} {d : Nat} {σ : Mem} {Q : MQ1} {x1 : Int32} {x2 : Int32} {y0 : Int32}  (h : ((y0 = 0 → Ec S d 118 [.inr (some 60), .inl (-100001)] σ (fun rv σ' => Ev S (d + 1) 133 12 [some (.inr (some 60)), some (.inl x1), some (.inl x2)] (rv ++ []) σ' Q)) ∧ (¬ (y0 = 0) → Ec S d 119 [.inl x2, .inl 0, .inl 9] σ (fun rv σ' => Ev S (d + 1) 133 8 [some (.inr (some 60)), some (.inl x1), some (.inl x2)] (rv ++ []) σ' Q)))) : Ev S (d + 1) 133 3 [some (.inr (some 60)), some (.inl x1), some (.inl x2)] [.inl y0] σ Q := by
  refine e_if (P := y0 = 0) q_133 rfl m_c0 (fun c => ?_) (fun c => ?_)
  · replace h := h.1 c
    refine e_load q_133 rfl rfl rfl ?_
    refine e_push q_133 rfl ?_
    exact e_virt q_133 rfl rfl (Nat.le_of_ble_eq_true rfl) rfl rfl (Nat.le_of_ble_eq_true rfl) rfl h
  · replace h := h.2 c
    refine e_load q_133 rfl rfl rfl ?_
    refine e_push q_133 rfl ?_
    refine e_push q_133 rfl ?_
    exact e_stat q_133 rfl (Nat.le_of_ble_eq_true rfl) rfl rfl (Nat.le_of_ble_eq_true rfl) h
theorem g_133_12 {S : Nat × (Nat → Int32)} {d : Nat} {σ : Mem} {Q : MQ1} {o0 : Option MV} {o1 : Option MV} {o2 : Option MV} {y0 : Int32}  (h : Q [.inl y0] σ) : Ev S (d + 1) 133 12 [o0, o1, o2] [.inl y0] σ Q := by
  exact e_ireturn q_133 rfl rfl h
theorem g_133_8 {S : Nat × (Nat → Int32)} {d : Nat} {σ : Mem} {Q : MQ1} {x1 : Int32} {x2 : Int32} {y0 : Int32}  (h : (((¬ y0 = 0) → Ec S d 124 [.inr (some 60), .inl x1] σ (fun rv σ' => Ev S (d + 1) 133 16 [some (.inr (some 60)), some (.inl x1), some (.inl x2)] (rv ++ []) σ' Q)) ∧ (¬ (¬ y0 = 0) → Ec S d 118 [.inr (some 60), .inl (-100001)] σ (fun rv σ' => Ev S (d + 1) 133 12 [some (.inr (some 60)), some (.inl x1), some (.inl x2)] (rv ++ []) σ' Q)))) : Ev S (d + 1) 133 8 [some (.inr (some 60)), some (.inl x1), some (.inl x2)] [.inl y0] σ Q := by
  refine e_if (P := ¬ y0 = 0) q_133 rfl m_c1 (fun c => ?_) (fun c => ?_)
  · replace h := h.1 c
    refine e_load q_133 rfl rfl rfl ?_
    refine e_load q_133 rfl rfl rfl ?_
    exact e_virt q_133 rfl rfl (Nat.le_of_ble_eq_true rfl) rfl rfl (Nat.le_of_ble_eq_true rfl) rfl h
  · replace h := h.2 c
    refine e_load q_133 rfl rfl rfl ?_
    refine e_push q_133 rfl ?_
    exact e_virt q_133 rfl rfl (Nat.le_of_ble_eq_true rfl) rfl rfl (Nat.le_of_ble_eq_true rfl) rfl h
theorem g_133_16 {S : Nat × (Nat → Int32)} {d : Nat} {σ : Mem} {Q : MQ1} {x1 : Int32} {x2 : Int32} {y0 : Int32}  (h : ((y0 = 0 → Ec S d 132 [.inr (some 60), .inl x1, .inl 3, .inl x2] σ (fun rv σ' => Ev S (d + 1) 133 26 [some (.inr (some 60)), some (.inl x1), some (.inl x2)] (rv ++ []) σ' Q)) ∧ (¬ (y0 = 0) → Ec S d 118 [.inr (some 60), .inl (-100004)] σ (fun rv σ' => Ev S (d + 1) 133 20 [some (.inr (some 60)), some (.inl x1), some (.inl x2)] (rv ++ []) σ' Q)))) : Ev S (d + 1) 133 16 [some (.inr (some 60)), some (.inl x1), some (.inl x2)] [.inl y0] σ Q := by
  refine e_if (P := y0 = 0) q_133 rfl m_c0 (fun c => ?_) (fun c => ?_)
  · replace h := h.1 c
    refine e_load q_133 rfl rfl rfl ?_
    refine e_load q_133 rfl rfl rfl ?_
    refine e_push q_133 rfl ?_
    refine e_load q_133 rfl rfl rfl ?_
    exact e_virt q_133 rfl rfl (Nat.le_of_ble_eq_true rfl) rfl rfl (Nat.le_of_ble_eq_true rfl) rfl h
  · replace h := h.2 c
    refine e_load q_133 rfl rfl rfl ?_
    refine e_push q_133 rfl ?_
    exact e_virt q_133 rfl rfl (Nat.le_of_ble_eq_true rfl) rfl rfl (Nat.le_of_ble_eq_true rfl) rfl h
theorem g_133_26 {S : Nat × (Nat → Int32)} {d : Nat} {σ : Mem} {Q : MQ1} {o0 : Option MV} {o1 : Option MV} {o2 : Option MV} {y0 : Int32}  (h : Q [.inl y0] σ) : Ev S (d + 1) 133 26 [o0, o1, o2] [.inl y0] σ Q := by
  exact e_ireturn q_133 rfl rfl h
theorem g_133_20 {S : Nat × (Nat → Int32)} {d : Nat} {σ : Mem} {Q : MQ1} {o0 : Option MV} {o1 : Option MV} {o2 : Option MV} {y0 : Int32}  (h : Q [.inl y0] σ) : Ev S (d + 1) 133 20 [o0, o1, o2] [.inl y0] σ Q := by
  refine e_goto q_133 rfl ?_
  exact e_ireturn q_133 rfl rfl h
theorem q_134 : m_code 134 = mc_134 := rfl
theorem g_134_0 {S : Nat × (Nat → Int32)} {d : Nat} {σ : Mem} {Q : MQ1} {x1 : Int32} {x2 : Int32}  (h : Ec S d 120 [.inr (some 60), .inl x1] σ (fun rv σ' => Ev S (d + 1) 134 3 [some (.inr (some 60)), some (.inl x1), some (.inl x2)] (rv ++ []) σ' Q)) : Ev S (d + 1) 134 0 [some (.inr (some 60)), some (.inl x1), some (.inl x2)] [] σ Q := by
  refine e_load q_134 rfl rfl rfl ?_
  refine e_load q_134 rfl rfl rfl ?_
  exact e_virt q_134 rfl rfl (Nat.le_of_ble_eq_true rfl) rfl rfl (Nat.le_of_ble_eq_true rfl) rfl h
theorem g_134_3 {S : Nat × (Nat → Int32)} {d : Nat} {σ : Mem} {Q : MQ1} {x1 : Int32} {x2 : Int32} {y0 : Int32}  (h : ((y0 = 0 → Ec S d 118 [.inr (some 60), .inl (-100001)] σ (fun rv σ' => Ev S (d + 1) 134 12 [some (.inr (some 60)), some (.inl x1), some (.inl x2)] (rv ++ []) σ' Q)) ∧ (¬ (y0 = 0) → Ec S d 119 [.inl x2, .inl 0, .inl 65535] σ (fun rv σ' => Ev S (d + 1) 134 8 [some (.inr (some 60)), some (.inl x1), some (.inl x2)] (rv ++ []) σ' Q)))) : Ev S (d + 1) 134 3 [some (.inr (some 60)), some (.inl x1), some (.inl x2)] [.inl y0] σ Q := by
  refine e_if (P := y0 = 0) q_134 rfl m_c0 (fun c => ?_) (fun c => ?_)
  · replace h := h.1 c
    refine e_load q_134 rfl rfl rfl ?_
    refine e_push q_134 rfl ?_
    exact e_virt q_134 rfl rfl (Nat.le_of_ble_eq_true rfl) rfl rfl (Nat.le_of_ble_eq_true rfl) rfl h
  · replace h := h.2 c
    refine e_load q_134 rfl rfl rfl ?_
    refine e_push q_134 rfl ?_
    refine e_push q_134 rfl ?_
    exact e_stat q_134 rfl (Nat.le_of_ble_eq_true rfl) rfl rfl (Nat.le_of_ble_eq_true rfl) h
theorem g_134_12 {S : Nat × (Nat → Int32)} {d : Nat} {σ : Mem} {Q : MQ1} {o0 : Option MV} {o1 : Option MV} {o2 : Option MV} {y0 : Int32}  (h : Q [.inl y0] σ) : Ev S (d + 1) 134 12 [o0, o1, o2] [.inl y0] σ Q := by
  exact e_ireturn q_134 rfl rfl h
theorem g_134_8 {S : Nat × (Nat → Int32)} {d : Nat} {σ : Mem} {Q : MQ1} {x1 : Int32} {x2 : Int32} {y0 : Int32}  (h : (((¬ y0 = 0) → Ec S d 132 [.inr (some 60), .inl x1, .inl 4, .inl x2] σ (fun rv σ' => Ev S (d + 1) 134 18 [some (.inr (some 60)), some (.inl x1), some (.inl x2)] (rv ++ []) σ' Q)) ∧ (¬ (¬ y0 = 0) → Ec S d 118 [.inr (some 60), .inl (-100001)] σ (fun rv σ' => Ev S (d + 1) 134 12 [some (.inr (some 60)), some (.inl x1), some (.inl x2)] (rv ++ []) σ' Q)))) : Ev S (d + 1) 134 8 [some (.inr (some 60)), some (.inl x1), some (.inl x2)] [.inl y0] σ Q := by
  refine e_if (P := ¬ y0 = 0) q_134 rfl m_c1 (fun c => ?_) (fun c => ?_)
  · replace h := h.1 c
    refine e_load q_134 rfl rfl rfl ?_
    refine e_load q_134 rfl rfl rfl ?_
    refine e_push q_134 rfl ?_
    refine e_load q_134 rfl rfl rfl ?_
    exact e_virt q_134 rfl rfl (Nat.le_of_ble_eq_true rfl) rfl rfl (Nat.le_of_ble_eq_true rfl) rfl h
  · replace h := h.2 c
    refine e_load q_134 rfl rfl rfl ?_
    refine e_push q_134 rfl ?_
    exact e_virt q_134 rfl rfl (Nat.le_of_ble_eq_true rfl) rfl rfl (Nat.le_of_ble_eq_true rfl) rfl h
theorem g_134_18 {S : Nat × (Nat → Int32)} {d : Nat} {σ : Mem} {Q : MQ1} {o0 : Option MV} {o1 : Option MV} {o2 : Option MV} {y0 : Int32}  (h : Q [.inl y0] σ) : Ev S (d + 1) 134 18 [o0, o1, o2] [.inl y0] σ Q := by
  exact e_ireturn q_134 rfl rfl h
theorem q_135 : m_code 135 = mc_135 := rfl
theorem g_135_0 {S : Nat × (Nat → Int32)} {d : Nat} {σ : Mem} {Q : MQ1} {x1 : Int32} {x2 : Int32}  (h : Ec S d 120 [.inr (some 60), .inl x1] σ (fun rv σ' => Ev S (d + 1) 135 3 [some (.inr (some 60)), some (.inl x1), some (.inl x2)] (rv ++ []) σ' Q)) : Ev S (d + 1) 135 0 [some (.inr (some 60)), some (.inl x1), some (.inl x2)] [] σ Q := by
  refine e_load q_135 rfl rfl rfl ?_
  refine e_load q_135 rfl rfl rfl ?_
  exact e_virt q_135 rfl rfl (Nat.le_of_ble_eq_true rfl) rfl rfl (Nat.le_of_ble_eq_true rfl) rfl h
theorem g_135_3 {S : Nat × (Nat → Int32)} {d : Nat} {σ : Mem} {Q : MQ1} {x1 : Int32} {x2 : Int32} {y0 : Int32}  (h : ((y0 = 0 → Ec S d 118 [.inr (some 60), .inl (-100001)] σ (fun rv σ' => Ev S (d + 1) 135 14 [some (.inr (some 60)), some (.inl x1), some (.inl x2)] (rv ++ []) σ' Q)) ∧ (¬ (y0 = 0) → ((x2 = (-1) → Ec S d 122 [.inr (some 60), .inl x1, .inl 0] σ (fun rv σ' => Ev S (d + 1) 135 19 [some (.inr (some 60)), some (.inl x1), some (.inl x2)] (rv ++ []) σ' Q)) ∧ (¬ (x2 = (-1)) → Ec S d 120 [.inr (some 60), .inl x2] σ (fun rv σ' => Ev S (d + 1) 135 10 [some (.inr (some 60)), some (.inl x1), some (.inl x2)] (rv ++ []) σ' Q)))))) : Ev S (d + 1) 135 3 [some (.inr (some 60)), some (.inl x1), some (.inl x2)] [.inl y0] σ Q := by
  refine e_if (P := y0 = 0) q_135 rfl m_c0 (fun c => ?_) (fun c => ?_)
  · replace h := h.1 c
    refine e_load q_135 rfl rfl rfl ?_
    refine e_push q_135 rfl ?_
    exact e_virt q_135 rfl rfl (Nat.le_of_ble_eq_true rfl) rfl rfl (Nat.le_of_ble_eq_true rfl) rfl h
  · replace h := h.2 c
    refine e_load q_135 rfl rfl rfl ?_
    refine e_push q_135 rfl ?_
    refine e_icmp (P := x2 = (-1)) q_135 rfl m_c0 (fun c => ?_) (fun c => ?_)
    · replace h := h.1 c
      refine e_load q_135 rfl rfl rfl ?_
      refine e_load q_135 rfl rfl rfl ?_
      refine e_push q_135 rfl ?_
      exact e_virt q_135 rfl rfl (Nat.le_of_ble_eq_true rfl) rfl rfl (Nat.le_of_ble_eq_true rfl) rfl h
    · replace h := h.2 c
      refine e_load q_135 rfl rfl rfl ?_
      refine e_load q_135 rfl rfl rfl ?_
      exact e_virt q_135 rfl rfl (Nat.le_of_ble_eq_true rfl) rfl rfl (Nat.le_of_ble_eq_true rfl) rfl h
theorem g_135_14 {S : Nat × (Nat → Int32)} {d : Nat} {σ : Mem} {Q : MQ1} {o0 : Option MV} {o1 : Option MV} {o2 : Option MV} {y0 : Int32}  (h : Q [.inl y0] σ) : Ev S (d + 1) 135 14 [o0, o1, o2] [.inl y0] σ Q := by
  exact e_ireturn q_135 rfl rfl h
theorem g_135_19 {S : Nat × (Nat → Int32)} {d : Nat} {σ : Mem} {Q : MQ1} {x1 : Int32} {x2 : Int32} {y0 : Int32}  (h : ((y0 = 3 → (((¬ x1 = x2) → Ec S d 132 [.inr (some 60), .inl x1, .inl 5, .inl x2] σ (fun rv σ' => Ev S (d + 1) 135 37 [some (.inr (some 60)), some (.inl x1), some (.inl x2)] (rv ++ []) σ' Q)) ∧ (¬ (¬ x1 = x2) → Ec S d 118 [.inr (some 60), .inl (-100003)] σ (fun rv σ' => Ev S (d + 1) 135 31 [some (.inr (some 60)), some (.inl x1), some (.inl x2)] (rv ++ []) σ' Q)))) ∧ (¬ (y0 = 3) → Ec S d 118 [.inr (some 60), .inl (-100004)] σ (fun rv σ' => Ev S (d + 1) 135 24 [some (.inr (some 60)), some (.inl x1), some (.inl x2)] (rv ++ []) σ' Q)))) : Ev S (d + 1) 135 19 [some (.inr (some 60)), some (.inl x1), some (.inl x2)] [.inl y0] σ Q := by
  refine e_push q_135 rfl ?_
  refine e_icmp (P := y0 = 3) q_135 rfl m_c0 (fun c => ?_) (fun c => ?_)
  · replace h := h.1 c
    refine e_load q_135 rfl rfl rfl ?_
    refine e_load q_135 rfl rfl rfl ?_
    refine e_icmp (P := ¬ x1 = x2) q_135 rfl m_c1 (fun c => ?_) (fun c => ?_)
    · replace h := h.1 c
      refine e_load q_135 rfl rfl rfl ?_
      refine e_load q_135 rfl rfl rfl ?_
      refine e_push q_135 rfl ?_
      refine e_load q_135 rfl rfl rfl ?_
      exact e_virt q_135 rfl rfl (Nat.le_of_ble_eq_true rfl) rfl rfl (Nat.le_of_ble_eq_true rfl) rfl h
    · replace h := h.2 c
      refine e_load q_135 rfl rfl rfl ?_
      refine e_push q_135 rfl ?_
      exact e_virt q_135 rfl rfl (Nat.le_of_ble_eq_true rfl) rfl rfl (Nat.le_of_ble_eq_true rfl) rfl h
  · replace h := h.2 c
    refine e_load q_135 rfl rfl rfl ?_
    refine e_push q_135 rfl ?_
    exact e_virt q_135 rfl rfl (Nat.le_of_ble_eq_true rfl) rfl rfl (Nat.le_of_ble_eq_true rfl) rfl h
theorem g_135_10 {S : Nat × (Nat → Int32)} {d : Nat} {σ : Mem} {Q : MQ1} {x1 : Int32} {x2 : Int32} {y0 : Int32}  (h : (((¬ y0 = 0) → Ec S d 122 [.inr (some 60), .inl x1, .inl 0] σ (fun rv σ' => Ev S (d + 1) 135 19 [some (.inr (some 60)), some (.inl x1), some (.inl x2)] (rv ++ []) σ' Q)) ∧ (¬ (¬ y0 = 0) → Ec S d 118 [.inr (some 60), .inl (-100001)] σ (fun rv σ' => Ev S (d + 1) 135 14 [some (.inr (some 60)), some (.inl x1), some (.inl x2)] (rv ++ []) σ' Q)))) : Ev S (d + 1) 135 10 [some (.inr (some 60)), some (.inl x1), some (.inl x2)] [.inl y0] σ Q := by
  refine e_if (P := ¬ y0 = 0) q_135 rfl m_c1 (fun c => ?_) (fun c => ?_)
  · replace h := h.1 c
    refine e_load q_135 rfl rfl rfl ?_
    refine e_load q_135 rfl rfl rfl ?_
    refine e_push q_135 rfl ?_
    exact e_virt q_135 rfl rfl (Nat.le_of_ble_eq_true rfl) rfl rfl (Nat.le_of_ble_eq_true rfl) rfl h
  · replace h := h.2 c
    refine e_load q_135 rfl rfl rfl ?_
    refine e_push q_135 rfl ?_
    exact e_virt q_135 rfl rfl (Nat.le_of_ble_eq_true rfl) rfl rfl (Nat.le_of_ble_eq_true rfl) rfl h
theorem g_135_37 {S : Nat × (Nat → Int32)} {d : Nat} {σ : Mem} {Q : MQ1} {o0 : Option MV} {o1 : Option MV} {o2 : Option MV} {y0 : Int32}  (h : Q [.inl y0] σ) : Ev S (d + 1) 135 37 [o0, o1, o2] [.inl y0] σ Q := by
  exact e_ireturn q_135 rfl rfl h
theorem g_135_31 {S : Nat × (Nat → Int32)} {d : Nat} {σ : Mem} {Q : MQ1} {o0 : Option MV} {o1 : Option MV} {o2 : Option MV} {y0 : Int32}  (h : Q [.inl y0] σ) : Ev S (d + 1) 135 31 [o0, o1, o2] [.inl y0] σ Q := by
  refine e_goto q_135 rfl ?_
  exact e_ireturn q_135 rfl rfl h
theorem g_135_24 {S : Nat × (Nat → Int32)} {d : Nat} {σ : Mem} {Q : MQ1} {o0 : Option MV} {o1 : Option MV} {o2 : Option MV} {y0 : Int32}  (h : Q [.inl y0] σ) : Ev S (d + 1) 135 24 [o0, o1, o2] [.inl y0] σ Q := by
  exact e_ireturn q_135 rfl rfl h
theorem q_136 : m_code 136 = mc_136 := rfl
theorem g_136_0 {S : Nat × (Nat → Int32)} {d : Nat} {σ : Mem} {Q : MQ1} {x1 : Int32} {x2 : Int32}  (h : Ec S d 120 [.inr (some 60), .inl x1] σ (fun rv σ' => Ev S (d + 1) 136 3 [some (.inr (some 60)), some (.inl x1), some (.inl x2)] (rv ++ []) σ' Q)) : Ev S (d + 1) 136 0 [some (.inr (some 60)), some (.inl x1), some (.inl x2)] [] σ Q := by
  refine e_load q_136 rfl rfl rfl ?_
  refine e_load q_136 rfl rfl rfl ?_
  exact e_virt q_136 rfl rfl (Nat.le_of_ble_eq_true rfl) rfl rfl (Nat.le_of_ble_eq_true rfl) rfl h
theorem g_136_3 {S : Nat × (Nat → Int32)} {d : Nat} {σ : Mem} {Q : MQ1} {x1 : Int32} {x2 : Int32} {y0 : Int32}  (h : ((y0 = 0 → Ec S d 118 [.inr (some 60), .inl (-100001)] σ (fun rv σ' => Ev S (d + 1) 136 12 [some (.inr (some 60)), some (.inl x1), some (.inl x2)] (rv ++ []) σ' Q)) ∧ (¬ (y0 = 0) → Ec S d 119 [.inl x2, .inl 0, .inl 7] σ (fun rv σ' => Ev S (d + 1) 136 8 [some (.inr (some 60)), some (.inl x1), some (.inl x2)] (rv ++ []) σ' Q)))) : Ev S (d + 1) 136 3 [some (.inr (some 60)), some (.inl x1), some (.inl x2)] [.inl y0] σ Q := by
  refine e_if (P := y0 = 0) q_136 rfl m_c0 (fun c => ?_) (fun c => ?_)
  · replace h := h.1 c
    refine e_load q_136 rfl rfl rfl ?_
    refine e_push q_136 rfl ?_
    exact e_virt q_136 rfl rfl (Nat.le_of_ble_eq_true rfl) rfl rfl (Nat.le_of_ble_eq_true rfl) rfl h
  · replace h := h.2 c
    refine e_load q_136 rfl rfl rfl ?_
    refine e_push q_136 rfl ?_
    refine e_push q_136 rfl ?_
    exact e_stat q_136 rfl (Nat.le_of_ble_eq_true rfl) rfl rfl (Nat.le_of_ble_eq_true rfl) h
theorem g_136_12 {S : Nat × (Nat → Int32)} {d : Nat} {σ : Mem} {Q : MQ1} {o0 : Option MV} {o1 : Option MV} {o2 : Option MV} {y0 : Int32}  (h : Q [.inl y0] σ) : Ev S (d + 1) 136 12 [o0, o1, o2] [.inl y0] σ Q := by
  exact e_ireturn q_136 rfl rfl h
theorem g_136_8 {S : Nat × (Nat → Int32)} {d : Nat} {σ : Mem} {Q : MQ1} {x1 : Int32} {x2 : Int32} {y0 : Int32}  (h : (((¬ y0 = 0) → ((5 ≤ x2 → Ec S d 122 [.inr (some 60), .inl x1, .inl (x2 + 1)] σ (fun rv σ' => Ev S (d + 1) 136 27 [some (.inr (some 60)), some (.inl x1), some (.inl x2)] (rv ++ []) σ' Q)) ∧ (¬ (5 ≤ x2) → Ec S d 122 [.inr (some 60), .inl x1, .inl x2] σ (fun rv σ' => Ev S (d + 1) 136 20 [some (.inr (some 60)), some (.inl x1), some (.inl x2)] (rv ++ []) σ' Q)))) ∧ (¬ (¬ y0 = 0) → Ec S d 118 [.inr (some 60), .inl (-100001)] σ (fun rv σ' => Ev S (d + 1) 136 12 [some (.inr (some 60)), some (.inl x1), some (.inl x2)] (rv ++ []) σ' Q)))) : Ev S (d + 1) 136 8 [some (.inr (some 60)), some (.inl x1), some (.inl x2)] [.inl y0] σ Q := by
  refine e_if (P := ¬ y0 = 0) q_136 rfl m_c1 (fun c => ?_) (fun c => ?_)
  · replace h := h.1 c
    refine e_load q_136 rfl rfl rfl ?_
    refine e_push q_136 rfl ?_
    refine e_icmp (P := 5 ≤ x2) q_136 rfl m_c3 (fun c => ?_) (fun c => ?_)
    · replace h := h.1 c
      refine e_load q_136 rfl rfl rfl ?_
      refine e_load q_136 rfl rfl rfl ?_
      refine e_load q_136 rfl rfl rfl ?_
      refine e_push q_136 rfl ?_
      refine e_bin (r := x2 + 1) q_136 rfl rfl ?_
      exact e_virt q_136 rfl rfl (Nat.le_of_ble_eq_true rfl) rfl rfl (Nat.le_of_ble_eq_true rfl) rfl h
    · replace h := h.2 c
      refine e_load q_136 rfl rfl rfl ?_
      refine e_load q_136 rfl rfl rfl ?_
      refine e_load q_136 rfl rfl rfl ?_
      exact e_virt q_136 rfl rfl (Nat.le_of_ble_eq_true rfl) rfl rfl (Nat.le_of_ble_eq_true rfl) rfl h
  · replace h := h.2 c
    refine e_load q_136 rfl rfl rfl ?_
    refine e_push q_136 rfl ?_
    exact e_virt q_136 rfl rfl (Nat.le_of_ble_eq_true rfl) rfl rfl (Nat.le_of_ble_eq_true rfl) rfl h
theorem g_136_27 {S : Nat × (Nat → Int32)} {d : Nat} {σ : Mem} {Q : MQ1} {o0 : Option MV} {o1 : Option MV} {o2 : Option MV} {y0 : Int32}  (h : Q [.inl y0] σ) : Ev S (d + 1) 136 27 [o0, o1, o2] [.inl y0] σ Q := by
  exact e_ireturn q_136 rfl rfl h
theorem g_136_20 {S : Nat × (Nat → Int32)} {d : Nat} {σ : Mem} {Q : MQ1} {o0 : Option MV} {o1 : Option MV} {o2 : Option MV} {y0 : Int32}  (h : Q [.inl y0] σ) : Ev S (d + 1) 136 20 [o0, o1, o2] [.inl y0] σ Q := by
  refine e_goto q_136 rfl ?_
  exact e_ireturn q_136 rfl rfl h
theorem q_137 : m_code 137 = mc_137 := rfl
theorem g_137_0 {S : Nat × (Nat → Int32)} {d : Nat} {σ : Mem} {Q : MQ1} {x1 : Int32} {x2 : Int32}  (h : Ec S d 121 [.inl x1] σ (fun rv σ' => Ev S (d + 1) 137 2 [some (.inr (some 60)), some (.inl x1), some (.inl x2), none] (rv ++ []) σ' Q)) : Ev S (d + 1) 137 0 [some (.inr (some 60)), some (.inl x1), some (.inl x2), none] [] σ Q := by
  refine e_load q_137 rfl rfl rfl ?_
  exact e_stat q_137 rfl (Nat.le_of_ble_eq_true rfl) rfl rfl (Nat.le_of_ble_eq_true rfl) h
theorem g_137_2 {S : Nat × (Nat → Int32)} {d : Nat} {σ : Mem} {Q : MQ1} {x1 : Int32} {x2 : Int32} {o3 : Option MV} {y0 : Int32}  (h : ((y0 = 0 → Ec S d 118 [.inr (some 60), .inl (-100001)] σ (fun rv σ' => Ev S (d + 1) 137 11 [some (.inr (some 60)), some (.inl x1), some (.inl x2), o3] (rv ++ []) σ' Q)) ∧ (¬ (y0 = 0) → Ec S d 119 [.inl x2, .inl 0, .inl 40] σ (fun rv σ' => Ev S (d + 1) 137 7 [some (.inr (some 60)), some (.inl x1), some (.inl x2), o3] (rv ++ []) σ' Q)))) : Ev S (d + 1) 137 2 [some (.inr (some 60)), some (.inl x1), some (.inl x2), o3] [.inl y0] σ Q := by
  refine e_if (P := y0 = 0) q_137 rfl m_c0 (fun c => ?_) (fun c => ?_)
  · replace h := h.1 c
    refine e_load q_137 rfl rfl rfl ?_
    refine e_push q_137 rfl ?_
    exact e_virt q_137 rfl rfl (Nat.le_of_ble_eq_true rfl) rfl rfl (Nat.le_of_ble_eq_true rfl) rfl h
  · replace h := h.2 c
    refine e_load q_137 rfl rfl rfl ?_
    refine e_push q_137 rfl ?_
    refine e_push q_137 rfl ?_
    exact e_stat q_137 rfl (Nat.le_of_ble_eq_true rfl) rfl rfl (Nat.le_of_ble_eq_true rfl) h
theorem g_137_11 {S : Nat × (Nat → Int32)} {d : Nat} {σ : Mem} {Q : MQ1} {o0 : Option MV} {o1 : Option MV} {o2 : Option MV} {o3 : Option MV} {y0 : Int32}  (h : Q [.inl y0] σ) : Ev S (d + 1) 137 11 [o0, o1, o2, o3] [.inl y0] σ Q := by
  exact e_ireturn q_137 rfl rfl h
theorem g_137_7 {S : Nat × (Nat → Int32)} {d : Nat} {σ : Mem} {Q : MQ1} {x1 : Int32} {x2 : Int32} {o3 : Option MV} {y0 : Int32}  (h : (((¬ y0 = 0) → Ec S d 126 [.inr (some 60)] σ (fun rv σ' => Ev S (d + 1) 137 14 [some (.inr (some 60)), some (.inl x1), some (.inl x2), o3] (rv ++ []) σ' Q)) ∧ (¬ (¬ y0 = 0) → Ec S d 118 [.inr (some 60), .inl (-100001)] σ (fun rv σ' => Ev S (d + 1) 137 11 [some (.inr (some 60)), some (.inl x1), some (.inl x2), o3] (rv ++ []) σ' Q)))) : Ev S (d + 1) 137 7 [some (.inr (some 60)), some (.inl x1), some (.inl x2), o3] [.inl y0] σ Q := by
  refine e_if (P := ¬ y0 = 0) q_137 rfl m_c1 (fun c => ?_) (fun c => ?_)
  · replace h := h.1 c
    refine e_load q_137 rfl rfl rfl ?_
    exact e_virt q_137 rfl rfl (Nat.le_of_ble_eq_true rfl) rfl rfl (Nat.le_of_ble_eq_true rfl) rfl h
  · replace h := h.2 c
    refine e_load q_137 rfl rfl rfl ?_
    refine e_push q_137 rfl ?_
    exact e_virt q_137 rfl rfl (Nat.le_of_ble_eq_true rfl) rfl rfl (Nat.le_of_ble_eq_true rfl) rfl h
theorem g_137_14 {S : Nat × (Nat → Int32)} {d : Nat} {σ : Mem} {Q : MQ1} {x1 : Int32} {x2 : Int32} {o3 : Option MV}  (h : (∃ j1 : Nat, 73 + x1 = nI j1 ∧ j1 < 86 ∧ (∃ j2 : Nat, 73 + x1 = nI j2 ∧ j2 < 86 ∧ Q [.inl (σ 61 j1)] (up σ 61 j2 x2)))) : Ev S (d + 1) 137 14 [some (.inr (some 60)), some (.inl x1), some (.inl x2), o3] [] σ Q := by
  refine e_load q_137 rfl rfl rfl ?_
  refine e_getR q_137 rfl rfl rfl ?_
  refine e_push q_137 rfl ?_
  refine e_load q_137 rfl rfl rfl ?_
  refine e_bin (r := 73 + x1) q_137 rfl rfl ?_
  obtain ⟨j1, hjj1, hlj1, h⟩ := h
  refine e_iald q_137 rfl rfl (by decide) hjj1 hlj1 ?_
  refine e_store (ls' := [some (.inr (some 60)), some (.inl x1), some (.inl x2), some (.inl (σ 61 j1))]) q_137 rfl (Nat.le_of_ble_eq_true rfl) rfl rfl ?_
  refine e_load q_137 rfl rfl rfl ?_
  refine e_getR q_137 rfl rfl rfl ?_
  refine e_push q_137 rfl ?_
  refine e_load q_137 rfl rfl rfl ?_
  refine e_bin (r := 73 + x1) q_137 rfl rfl ?_
  refine e_load q_137 rfl rfl rfl ?_
  obtain ⟨j2, hjj2, hlj2, h⟩ := h
  refine e_iast q_137 rfl rfl (by decide) hjj2 hlj2 ?_
  refine e_load q_137 rfl rfl rfl ?_
  exact e_ireturn q_137 rfl rfl h
theorem q_138 : m_code 138 = mc_138 := rfl
theorem g_138_0 {S : Nat × (Nat → Int32)} {d : Nat} {σ : Mem} {Q : MQ1} {x1 : Int32} {x2 : Int32}  (h : Ec S d 121 [.inl x1] σ (fun rv σ' => Ev S (d + 1) 138 2 [some (.inr (some 60)), some (.inl x1), some (.inl x2), none] (rv ++ []) σ' Q)) : Ev S (d + 1) 138 0 [some (.inr (some 60)), some (.inl x1), some (.inl x2), none] [] σ Q := by
  refine e_load q_138 rfl rfl rfl ?_
  exact e_stat q_138 rfl (Nat.le_of_ble_eq_true rfl) rfl rfl (Nat.le_of_ble_eq_true rfl) h
theorem g_138_2 {S : Nat × (Nat → Int32)} {d : Nat} {σ : Mem} {Q : MQ1} {x1 : Int32} {x2 : Int32} {o3 : Option MV} {y0 : Int32}  (h : (((¬ y0 = 0) → Ec S d 126 [.inr (some 60)] σ (fun rv σ' => Ev S (d + 1) 138 9 [some (.inr (some 60)), some (.inl x1), some (.inl x2), o3] (rv ++ []) σ' Q)) ∧ (¬ (¬ y0 = 0) → Ec S d 118 [.inr (some 60), .inl (-100001)] σ (fun rv σ' => Ev S (d + 1) 138 6 [some (.inr (some 60)), some (.inl x1), some (.inl x2), o3] (rv ++ []) σ' Q)))) : Ev S (d + 1) 138 2 [some (.inr (some 60)), some (.inl x1), some (.inl x2), o3] [.inl y0] σ Q := by
  refine e_if (P := ¬ y0 = 0) q_138 rfl m_c1 (fun c => ?_) (fun c => ?_)
  · replace h := h.1 c
    refine e_load q_138 rfl rfl rfl ?_
    exact e_virt q_138 rfl rfl (Nat.le_of_ble_eq_true rfl) rfl rfl (Nat.le_of_ble_eq_true rfl) rfl h
  · replace h := h.2 c
    refine e_load q_138 rfl rfl rfl ?_
    refine e_push q_138 rfl ?_
    exact e_virt q_138 rfl rfl (Nat.le_of_ble_eq_true rfl) rfl rfl (Nat.le_of_ble_eq_true rfl) rfl h
theorem g_138_9 {S : Nat × (Nat → Int32)} {d : Nat} {σ : Mem} {Q : MQ1} {x1 : Int32} {x2 : Int32} {o3 : Option MV}  (h : Ec S d 125 [.inr (some 60), .inl x1] σ (fun rv σ' => Ev S (d + 1) 138 12 [some (.inr (some 60)), some (.inl x1), some (.inl x2), o3] (rv ++ []) σ' Q)) : Ev S (d + 1) 138 9 [some (.inr (some 60)), some (.inl x1), some (.inl x2), o3] [] σ Q := by
  refine e_load q_138 rfl rfl rfl ?_
  refine e_load q_138 rfl rfl rfl ?_
  exact e_virt q_138 rfl rfl (Nat.le_of_ble_eq_true rfl) rfl rfl (Nat.le_of_ble_eq_true rfl) rfl h
theorem g_138_6 {S : Nat × (Nat → Int32)} {d : Nat} {σ : Mem} {Q : MQ1} {o0 : Option MV} {o1 : Option MV} {o2 : Option MV} {o3 : Option MV} {y0 : Int32}  (h : Q [.inl y0] σ) : Ev S (d + 1) 138 6 [o0, o1, o2, o3] [.inl y0] σ Q := by
  exact e_ireturn q_138 rfl rfl h
theorem g_138_12 {S : Nat × (Nat → Int32)} {d : Nat} {σ : Mem} {Q : MQ1} {x1 : Int32} {x2 : Int32} {o3 : Option MV} {y0 : Int32}  (h : ((x2 = 0 → (∃ j1 : Nat, 79 + x1 = nI j1 ∧ j1 < 86 ∧ (((¬ y0 = x2) → Q [.inl 1] (up σ 61 j1 0)) ∧ (¬ (¬ y0 = x2) → Q [.inl 0] (up σ 61 j1 0))))) ∧ (¬ (x2 = 0) → (∃ j2 : Nat, 79 + x1 = nI j2 ∧ j2 < 86 ∧ (((¬ y0 = x2) → Q [.inl 1] (up σ 61 j2 1)) ∧ (¬ (¬ y0 = x2) → Q [.inl 0] (up σ 61 j2 1))))))) : Ev S (d + 1) 138 12 [some (.inr (some 60)), some (.inl x1), some (.inl x2), o3] [.inl y0] σ Q := by
  refine e_store (ls' := [some (.inr (some 60)), some (.inl x1), some (.inl x2), some (.inl y0)]) q_138 rfl (Nat.le_of_ble_eq_true rfl) rfl rfl ?_
  refine e_load q_138 rfl rfl rfl ?_
  refine e_getR q_138 rfl rfl rfl ?_
  refine e_push q_138 rfl ?_
  refine e_load q_138 rfl rfl rfl ?_
  refine e_bin (r := 79 + x1) q_138 rfl rfl ?_
  refine e_load q_138 rfl rfl rfl ?_
  refine e_if (P := x2 = 0) q_138 rfl m_c0 (fun c => ?_) (fun c => ?_)
  · replace h := h.1 c
    refine e_push q_138 rfl ?_
    obtain ⟨j1, hjj1, hlj1, h⟩ := h
    refine e_iast q_138 rfl rfl (by decide) hjj1 hlj1 ?_
    refine e_load q_138 rfl rfl rfl ?_
    refine e_load q_138 rfl rfl rfl ?_
    refine e_icmp (P := ¬ y0 = x2) q_138 rfl m_c1 (fun c => ?_) (fun c => ?_)
    · replace h := h.1 c
      refine e_push q_138 rfl ?_
      exact e_ireturn q_138 rfl rfl h
    · replace h := h.2 c
      refine e_push q_138 rfl ?_
      refine e_goto q_138 rfl ?_
      exact e_ireturn q_138 rfl rfl h
  · replace h := h.2 c
    refine e_push q_138 rfl ?_
    refine e_goto q_138 rfl ?_
    obtain ⟨j2, hjj2, hlj2, h⟩ := h
    refine e_iast q_138 rfl rfl (by decide) hjj2 hlj2 ?_
    refine e_load q_138 rfl rfl rfl ?_
    refine e_load q_138 rfl rfl rfl ?_
    refine e_icmp (P := ¬ y0 = x2) q_138 rfl m_c1 (fun c => ?_) (fun c => ?_)
    · replace h := h.1 c
      refine e_push q_138 rfl ?_
      exact e_ireturn q_138 rfl rfl h
    · replace h := h.2 c
      refine e_push q_138 rfl ?_
      refine e_goto q_138 rfl ?_
      exact e_ireturn q_138 rfl rfl h
theorem q_139 : m_code 139 = mc_139 := rfl
theorem g_139_0 {S : Nat × (Nat → Int32)} {d : Nat} {σ : Mem} {Q : MQ1} {x1 : Int32}  (h : Ec S d 119 [.inl x1, .inl 0, .inl 6] σ (fun rv σ' => Ev S (d + 1) 139 4 [some (.inr (some 60)), some (.inl x1), none] (rv ++ []) σ' Q)) : Ev S (d + 1) 139 0 [some (.inr (some 60)), some (.inl x1), none] [] σ Q := by
  refine e_load q_139 rfl rfl rfl ?_
  refine e_push q_139 rfl ?_
  refine e_push q_139 rfl ?_
  exact e_stat q_139 rfl (Nat.le_of_ble_eq_true rfl) rfl rfl (Nat.le_of_ble_eq_true rfl) h
theorem g_139_4 {S : Nat × (Nat → Int32)} {d : Nat} {σ : Mem} {Q : MQ1} {x1 : Int32} {o2 : Option MV} {y0 : Int32}  (h : (((¬ y0 = 0) → Ec S d 126 [.inr (some 60)] σ (fun rv σ' => Ev S (d + 1) 139 11 [some (.inr (some 60)), some (.inl x1), o2] (rv ++ []) σ' Q)) ∧ (¬ (¬ y0 = 0) → Ec S d 118 [.inr (some 60), .inl (-100001)] σ (fun rv σ' => Ev S (d + 1) 139 8 [some (.inr (some 60)), some (.inl x1), o2] (rv ++ []) σ' Q)))) : Ev S (d + 1) 139 4 [some (.inr (some 60)), some (.inl x1), o2] [.inl y0] σ Q := by
  refine e_if (P := ¬ y0 = 0) q_139 rfl m_c1 (fun c => ?_) (fun c => ?_)
  · replace h := h.1 c
    refine e_load q_139 rfl rfl rfl ?_
    exact e_virt q_139 rfl rfl (Nat.le_of_ble_eq_true rfl) rfl rfl (Nat.le_of_ble_eq_true rfl) rfl h
  · replace h := h.2 c
    refine e_load q_139 rfl rfl rfl ?_
    refine e_push q_139 rfl ?_
    exact e_virt q_139 rfl rfl (Nat.le_of_ble_eq_true rfl) rfl rfl (Nat.le_of_ble_eq_true rfl) rfl h
theorem g_139_11 {S : Nat × (Nat → Int32)} {d : Nat} {σ : Mem} {Q : MQ1} {x1 : Int32} {o2 : Option MV}  (h : Q [.inl (σ 61 85)] (up σ 61 85 x1)) : Ev S (d + 1) 139 11 [some (.inr (some 60)), some (.inl x1), o2] [] σ Q := by
  refine e_load q_139 rfl rfl rfl ?_
  refine e_getR q_139 rfl rfl rfl ?_
  refine e_push q_139 rfl ?_
  refine e_iald (j := 85) q_139 rfl rfl (by decide) (by decide +kernel) (by decide) ?_
  refine e_store (ls' := [some (.inr (some 60)), some (.inl x1), some (.inl (σ 61 85))]) q_139 rfl (Nat.le_of_ble_eq_true rfl) rfl rfl ?_
  refine e_load q_139 rfl rfl rfl ?_
  refine e_getR q_139 rfl rfl rfl ?_
  refine e_push q_139 rfl ?_
  refine e_load q_139 rfl rfl rfl ?_
  refine e_iast (j := 85) q_139 rfl rfl (by decide) (by decide +kernel) (by decide) ?_
  refine e_load q_139 rfl rfl rfl ?_
  exact e_ireturn q_139 rfl rfl h
theorem g_139_8 {S : Nat × (Nat → Int32)} {d : Nat} {σ : Mem} {Q : MQ1} {o0 : Option MV} {o1 : Option MV} {o2 : Option MV} {y0 : Int32}  (h : Q [.inl y0] σ) : Ev S (d + 1) 139 8 [o0, o1, o2] [.inl y0] σ Q := by
  exact e_ireturn q_139 rfl rfl h
theorem q_140 : m_code 140 = mc_140 := rfl
theorem g_140_0 {S : Nat × (Nat → Int32)} {d : Nat} {σ : Mem} {Q : MQ1} {x0 : Int32}  (h : Ec S d 119 [.inl x0, .inl 0, .inl 3] σ (fun rv σ' => Ev S (d + 1) 140 4 [some (.inl x0)] (rv ++ []) σ' Q)) : Ev S (d + 1) 140 0 [some (.inl x0)] [] σ Q := by
  refine e_load q_140 rfl rfl rfl ?_
  refine e_push q_140 rfl ?_
  refine e_push q_140 rfl ?_
  exact e_stat q_140 rfl (Nat.le_of_ble_eq_true rfl) rfl rfl (Nat.le_of_ble_eq_true rfl) h
theorem g_140_4 {S : Nat × (Nat → Int32)} {d : Nat} {σ : Mem} {Q : MQ1} {o0 : Option MV} {y0 : Int32}  (h : ((y0 = 0 ∨ y0 = 1) ∧ Q [.inl y0] σ)) : Ev S (d + 1) 140 4 [o0] [.inl y0] σ Q := by
  exact e_zreturn q_140 rfl rfl h.1 h.2
theorem q_141 : m_code 141 = mc_141 := rfl
theorem g_141_0 {S : Nat × (Nat → Int32)} {d : Nat} {σ : Mem} {Q : MQ1} {x1 : Int32} {x2 : Int32} {x3 : Int32}  (h : Ec S d 140 [.inl x1] σ (fun rv σ' => Ev S (d + 1) 141 2 [some (.inr (some 60)), some (.inl x1), some (.inl x2), some (.inl x3), none] (rv ++ []) σ' Q)) : Ev S (d + 1) 141 0 [some (.inr (some 60)), some (.inl x1), some (.inl x2), some (.inl x3), none] [] σ Q := by
  refine e_load q_141 rfl rfl rfl ?_
  exact e_stat q_141 rfl (Nat.le_of_ble_eq_true rfl) rfl rfl (Nat.le_of_ble_eq_true rfl) h
theorem g_141_2 {S : Nat × (Nat → Int32)} {d : Nat} {σ : Mem} {Q : MQ1} {x1 : Int32} {x2 : Int32} {x3 : Int32} {o4 : Option MV} {y0 : Int32}  (h : ((y0 = 0 → Ec S d 118 [.inr (some 60), .inl (-100001)] σ (fun rv σ' => Ev S (d + 1) 141 17 [some (.inr (some 60)), some (.inl x1), some (.inl x2), some (.inl x3), o4] (rv ++ []) σ' Q)) ∧ (¬ (y0 = 0) → ((x2 = 0 → ((0 ≤ x3 → ((x3 ≤ 6 → (∃ j1 : Nat, x1 = nI j1 ∧ j1 < 4 ∧ (((¬ x2 = 0) → (∃ j2 : Nat, x1 = nI j2 ∧ j2 < 4 ∧ Ev S (d + 1) 141 47 [some (.inr (some 60)), some (.inl x1), some (.inl x2), some (.inl x3), some (.inl 0)] [] (up (up σ 63 j1 x2) 64 j2 x3) Q)) ∧ (¬ (¬ x2 = 0) → (∃ j3 : Nat, x1 = nI j3 ∧ j3 < 4 ∧ Ev S (d + 1) 141 47 [some (.inr (some 60)), some (.inl x1), some (.inl x2), some (.inl x3), some (.inl 0)] [] (up (up σ 63 j1 x2) 64 j3 0) Q))))) ∧ (¬ (x3 ≤ 6) → Ec S d 118 [.inr (some 60), .inl (-100001)] σ (fun rv σ' => Ev S (d + 1) 141 30 [some (.inr (some 60)), some (.inl x1), some (.inl x2), some (.inl x3), o4] (rv ++ []) σ' Q)))) ∧ (¬ (0 ≤ x3) → Ec S d 118 [.inr (some 60), .inl (-100003)] σ (fun rv σ' => Ev S (d + 1) 141 23 [some (.inr (some 60)), some (.inl x1), some (.inl x2), some (.inl x3), o4] (rv ++ []) σ' Q)))) ∧ (¬ (x2 = 0) → ((x2 = 8 → ((0 ≤ x3 → ((x3 ≤ 6 → (∃ j4 : Nat, x1 = nI j4 ∧ j4 < 4 ∧ (((¬ x2 = 0) → (∃ j5 : Nat, x1 = nI j5 ∧ j5 < 4 ∧ Ev S (d + 1) 141 47 [some (.inr (some 60)), some (.inl x1), some (.inl x2), some (.inl x3), some (.inl 0)] [] (up (up σ 63 j4 x2) 64 j5 x3) Q)) ∧ (¬ (¬ x2 = 0) → (∃ j6 : Nat, x1 = nI j6 ∧ j6 < 4 ∧ Ev S (d + 1) 141 47 [some (.inr (some 60)), some (.inl x1), some (.inl x2), some (.inl x3), some (.inl 0)] [] (up (up σ 63 j4 x2) 64 j6 0) Q))))) ∧ (¬ (x3 ≤ 6) → Ec S d 118 [.inr (some 60), .inl (-100001)] σ (fun rv σ' => Ev S (d + 1) 141 30 [some (.inr (some 60)), some (.inl x1), some (.inl x2), some (.inl x3), o4] (rv ++ []) σ' Q)))) ∧ (¬ (0 ≤ x3) → Ec S d 118 [.inr (some 60), .inl (-100003)] σ (fun rv σ' => Ev S (d + 1) 141 23 [some (.inr (some 60)), some (.inl x1), some (.inl x2), some (.inl x3), o4] (rv ++ []) σ' Q)))) ∧ (¬ (x2 = 8) → ((x2 = 16 → ((0 ≤ x3 → ((x3 ≤ 6 → (∃ j7 : Nat, x1 = nI j7 ∧ j7 < 4 ∧ (((¬ x2 = 0) → (∃ j8 : Nat, x1 = nI j8 ∧ j8 < 4 ∧ Ev S (d + 1) 141 47 [some (.inr (some 60)), some (.inl x1), some (.inl x2), some (.inl x3), some (.inl 0)] [] (up (up σ 63 j7 x2) 64 j8 x3) Q)) ∧ (¬ (¬ x2 = 0) → (∃ j9 : Nat, x1 = nI j9 ∧ j9 < 4 ∧ Ev S (d + 1) 141 47 [some (.inr (some 60)), some (.inl x1), some (.inl x2), some (.inl x3), some (.inl 0)] [] (up (up σ 63 j7 x2) 64 j9 0) Q))))) ∧ (¬ (x3 ≤ 6) → Ec S d 118 [.inr (some 60), .inl (-100001)] σ (fun rv σ' => Ev S (d + 1) 141 30 [some (.inr (some 60)), some (.inl x1), some (.inl x2), some (.inl x3), o4] (rv ++ []) σ' Q)))) ∧ (¬ (0 ≤ x3) → Ec S d 118 [.inr (some 60), .inl (-100003)] σ (fun rv σ' => Ev S (d + 1) 141 23 [some (.inr (some 60)), some (.inl x1), some (.inl x2), some (.inl x3), o4] (rv ++ []) σ' Q)))) ∧ (¬ (x2 = 16) → ((x2 = 32 → ((0 ≤ x3 → ((x3 ≤ 6 → (∃ j10 : Nat, x1 = nI j10 ∧ j10 < 4 ∧ (((¬ x2 = 0) → (∃ j11 : Nat, x1 = nI j11 ∧ j11 < 4 ∧ Ev S (d + 1) 141 47 [some (.inr (some 60)), some (.inl x1), some (.inl x2), some (.inl x3), some (.inl 0)] [] (up (up σ 63 j10 x2) 64 j11 x3) Q)) ∧ (¬ (¬ x2 = 0) → (∃ j12 : Nat, x1 = nI j12 ∧ j12 < 4 ∧ Ev S (d + 1) 141 47 [some (.inr (some 60)), some (.inl x1), some (.inl x2), some (.inl x3), some (.inl 0)] [] (up (up σ 63 j10 x2) 64 j12 0) Q))))) ∧ (¬ (x3 ≤ 6) → Ec S d 118 [.inr (some 60), .inl (-100001)] σ (fun rv σ' => Ev S (d + 1) 141 30 [some (.inr (some 60)), some (.inl x1), some (.inl x2), some (.inl x3), o4] (rv ++ []) σ' Q)))) ∧ (¬ (0 ≤ x3) → Ec S d 118 [.inr (some 60), .inl (-100003)] σ (fun rv σ' => Ev S (d + 1) 141 23 [some (.inr (some 60)), some (.inl x1), some (.inl x2), some (.inl x3), o4] (rv ++ []) σ' Q)))) ∧ (¬ (x2 = 32) → Ec S d 118 [.inr (some 60), .inl (-100001)] σ (fun rv σ' => Ev S (d + 1) 141 17 [some (.inr (some 60)), some (.inl x1), some (.inl x2), some (.inl x3), o4] (rv ++ []) σ' Q)))))))))))) : Ev S (d + 1) 141 2 [some (.inr (some 60)), some (.inl x1), some (.inl x2), some (.inl x3), o4] [.inl y0] σ Q := by
  refine e_if (P := y0 = 0) q_141 rfl m_c0 (fun c => ?_) (fun c => ?_)
  · replace h := h.1 c
    refine e_load q_141 rfl rfl rfl ?_
    refine e_push q_141 rfl ?_
    exact e_virt q_141 rfl rfl (Nat.le_of_ble_eq_true rfl) rfl rfl (Nat.le_of_ble_eq_true rfl) rfl h
  · replace h := h.2 c
    refine e_load q_141 rfl rfl rfl ?_
    refine e_if (P := x2 = 0) q_141 rfl m_c0 (fun c => ?_) (fun c => ?_)
    · replace h := h.1 c
      refine e_load q_141 rfl rfl rfl ?_
      refine e_if (P := 0 ≤ x3) q_141 rfl m_c3 (fun c => ?_) (fun c => ?_)
      · replace h := h.1 c
        refine e_load q_141 rfl rfl rfl ?_
        refine e_push q_141 rfl ?_
        refine e_icmp (P := x3 ≤ 6) q_141 rfl m_c5 (fun c => ?_) (fun c => ?_)
        · replace h := h.1 c
          refine e_load q_141 rfl rfl rfl ?_
          refine e_getR q_141 rfl rfl rfl ?_
          refine e_load q_141 rfl rfl rfl ?_
          refine e_load q_141 rfl rfl rfl ?_
          obtain ⟨j1, hjj1, hlj1, h⟩ := h
          refine e_iast q_141 rfl rfl (by decide) hjj1 hlj1 ?_
          refine e_load q_141 rfl rfl rfl ?_
          refine e_getR q_141 rfl rfl rfl ?_
          refine e_load q_141 rfl rfl rfl ?_
          refine e_load q_141 rfl rfl rfl ?_
          refine e_if (P := ¬ x2 = 0) q_141 rfl m_c1 (fun c => ?_) (fun c => ?_)
          · replace h := h.1 c
            refine e_load q_141 rfl rfl rfl ?_
            obtain ⟨j2, hjj2, hlj2, h⟩ := h
            refine e_iast q_141 rfl rfl (by decide) hjj2 hlj2 ?_
            refine e_push q_141 rfl ?_
            refine e_store (ls' := [some (.inr (some 60)), some (.inl x1), some (.inl x2), some (.inl x3), some (.inl 0)]) q_141 rfl (Nat.le_of_ble_eq_true rfl) rfl rfl ?_
            exact h
          · replace h := h.2 c
            refine e_push q_141 rfl ?_
            refine e_goto q_141 rfl ?_
            obtain ⟨j3, hjj3, hlj3, h⟩ := h
            refine e_iast q_141 rfl rfl (by decide) hjj3 hlj3 ?_
            refine e_push q_141 rfl ?_
            refine e_store (ls' := [some (.inr (some 60)), some (.inl x1), some (.inl x2), some (.inl x3), some (.inl 0)]) q_141 rfl (Nat.le_of_ble_eq_true rfl) rfl rfl ?_
            exact h
        · replace h := h.2 c
          refine e_load q_141 rfl rfl rfl ?_
          refine e_push q_141 rfl ?_
          exact e_virt q_141 rfl rfl (Nat.le_of_ble_eq_true rfl) rfl rfl (Nat.le_of_ble_eq_true rfl) rfl h
      · replace h := h.2 c
        refine e_load q_141 rfl rfl rfl ?_
        refine e_push q_141 rfl ?_
        exact e_virt q_141 rfl rfl (Nat.le_of_ble_eq_true rfl) rfl rfl (Nat.le_of_ble_eq_true rfl) rfl h
    · replace h := h.2 c
      refine e_load q_141 rfl rfl rfl ?_
      refine e_push q_141 rfl ?_
      refine e_icmp (P := x2 = 8) q_141 rfl m_c0 (fun c => ?_) (fun c => ?_)
      · replace h := h.1 c
        refine e_load q_141 rfl rfl rfl ?_
        refine e_if (P := 0 ≤ x3) q_141 rfl m_c3 (fun c => ?_) (fun c => ?_)
        · replace h := h.1 c
          refine e_load q_141 rfl rfl rfl ?_
          refine e_push q_141 rfl ?_
          refine e_icmp (P := x3 ≤ 6) q_141 rfl m_c5 (fun c => ?_) (fun c => ?_)
          · replace h := h.1 c
            refine e_load q_141 rfl rfl rfl ?_
            refine e_getR q_141 rfl rfl rfl ?_
            refine e_load q_141 rfl rfl rfl ?_
            refine e_load q_141 rfl rfl rfl ?_
            obtain ⟨j4, hjj4, hlj4, h⟩ := h
            refine e_iast q_141 rfl rfl (by decide) hjj4 hlj4 ?_
            refine e_load q_141 rfl rfl rfl ?_
            refine e_getR q_141 rfl rfl rfl ?_
            refine e_load q_141 rfl rfl rfl ?_
            refine e_load q_141 rfl rfl rfl ?_
            refine e_if (P := ¬ x2 = 0) q_141 rfl m_c1 (fun c => ?_) (fun c => ?_)
            · replace h := h.1 c
              refine e_load q_141 rfl rfl rfl ?_
              obtain ⟨j5, hjj5, hlj5, h⟩ := h
              refine e_iast q_141 rfl rfl (by decide) hjj5 hlj5 ?_
              refine e_push q_141 rfl ?_
              refine e_store (ls' := [some (.inr (some 60)), some (.inl x1), some (.inl x2), some (.inl x3), some (.inl 0)]) q_141 rfl (Nat.le_of_ble_eq_true rfl) rfl rfl ?_
              exact h
            · replace h := h.2 c
              refine e_push q_141 rfl ?_
              refine e_goto q_141 rfl ?_
              obtain ⟨j6, hjj6, hlj6, h⟩ := h
              refine e_iast q_141 rfl rfl (by decide) hjj6 hlj6 ?_
              refine e_push q_141 rfl ?_
              refine e_store (ls' := [some (.inr (some 60)), some (.inl x1), some (.inl x2), some (.inl x3), some (.inl 0)]) q_141 rfl (Nat.le_of_ble_eq_true rfl) rfl rfl ?_
              exact h
          · replace h := h.2 c
            refine e_load q_141 rfl rfl rfl ?_
            refine e_push q_141 rfl ?_
            exact e_virt q_141 rfl rfl (Nat.le_of_ble_eq_true rfl) rfl rfl (Nat.le_of_ble_eq_true rfl) rfl h
        · replace h := h.2 c
          refine e_load q_141 rfl rfl rfl ?_
          refine e_push q_141 rfl ?_
          exact e_virt q_141 rfl rfl (Nat.le_of_ble_eq_true rfl) rfl rfl (Nat.le_of_ble_eq_true rfl) rfl h
      · replace h := h.2 c
        refine e_load q_141 rfl rfl rfl ?_
        refine e_push q_141 rfl ?_
        refine e_icmp (P := x2 = 16) q_141 rfl m_c0 (fun c => ?_) (fun c => ?_)
        · replace h := h.1 c
          refine e_load q_141 rfl rfl rfl ?_
          refine e_if (P := 0 ≤ x3) q_141 rfl m_c3 (fun c => ?_) (fun c => ?_)
          · replace h := h.1 c
            refine e_load q_141 rfl rfl rfl ?_
            refine e_push q_141 rfl ?_
            refine e_icmp (P := x3 ≤ 6) q_141 rfl m_c5 (fun c => ?_) (fun c => ?_)
            · replace h := h.1 c
              refine e_load q_141 rfl rfl rfl ?_
              refine e_getR q_141 rfl rfl rfl ?_
              refine e_load q_141 rfl rfl rfl ?_
              refine e_load q_141 rfl rfl rfl ?_
              obtain ⟨j7, hjj7, hlj7, h⟩ := h
              refine e_iast q_141 rfl rfl (by decide) hjj7 hlj7 ?_
              refine e_load q_141 rfl rfl rfl ?_
              refine e_getR q_141 rfl rfl rfl ?_
              refine e_load q_141 rfl rfl rfl ?_
              refine e_load q_141 rfl rfl rfl ?_
              refine e_if (P := ¬ x2 = 0) q_141 rfl m_c1 (fun c => ?_) (fun c => ?_)
              · replace h := h.1 c
                refine e_load q_141 rfl rfl rfl ?_
                obtain ⟨j8, hjj8, hlj8, h⟩ := h
                refine e_iast q_141 rfl rfl (by decide) hjj8 hlj8 ?_
                refine e_push q_141 rfl ?_
                refine e_store (ls' := [some (.inr (some 60)), some (.inl x1), some (.inl x2), some (.inl x3), some (.inl 0)]) q_141 rfl (Nat.le_of_ble_eq_true rfl) rfl rfl ?_
                exact h
              · replace h := h.2 c
                refine e_push q_141 rfl ?_
                refine e_goto q_141 rfl ?_
                obtain ⟨j9, hjj9, hlj9, h⟩ := h
                refine e_iast q_141 rfl rfl (by decide) hjj9 hlj9 ?_
                refine e_push q_141 rfl ?_
                refine e_store (ls' := [some (.inr (some 60)), some (.inl x1), some (.inl x2), some (.inl x3), some (.inl 0)]) q_141 rfl (Nat.le_of_ble_eq_true rfl) rfl rfl ?_
                exact h
            · replace h := h.2 c
              refine e_load q_141 rfl rfl rfl ?_
              refine e_push q_141 rfl ?_
              exact e_virt q_141 rfl rfl (Nat.le_of_ble_eq_true rfl) rfl rfl (Nat.le_of_ble_eq_true rfl) rfl h
          · replace h := h.2 c
            refine e_load q_141 rfl rfl rfl ?_
            refine e_push q_141 rfl ?_
            exact e_virt q_141 rfl rfl (Nat.le_of_ble_eq_true rfl) rfl rfl (Nat.le_of_ble_eq_true rfl) rfl h
        · replace h := h.2 c
          refine e_load q_141 rfl rfl rfl ?_
          refine e_push q_141 rfl ?_
          refine e_icmp (P := x2 = 32) q_141 rfl m_c0 (fun c => ?_) (fun c => ?_)
          · replace h := h.1 c
            refine e_load q_141 rfl rfl rfl ?_
            refine e_if (P := 0 ≤ x3) q_141 rfl m_c3 (fun c => ?_) (fun c => ?_)
            · replace h := h.1 c
              refine e_load q_141 rfl rfl rfl ?_
              refine e_push q_141 rfl ?_
              refine e_icmp (P := x3 ≤ 6) q_141 rfl m_c5 (fun c => ?_) (fun c => ?_)
              · replace h := h.1 c
                refine e_load q_141 rfl rfl rfl ?_
                refine e_getR q_141 rfl rfl rfl ?_
                refine e_load q_141 rfl rfl rfl ?_
                refine e_load q_141 rfl rfl rfl ?_
                obtain ⟨j10, hjj10, hlj10, h⟩ := h
                refine e_iast q_141 rfl rfl (by decide) hjj10 hlj10 ?_
                refine e_load q_141 rfl rfl rfl ?_
                refine e_getR q_141 rfl rfl rfl ?_
                refine e_load q_141 rfl rfl rfl ?_
                refine e_load q_141 rfl rfl rfl ?_
                refine e_if (P := ¬ x2 = 0) q_141 rfl m_c1 (fun c => ?_) (fun c => ?_)
                · replace h := h.1 c
                  refine e_load q_141 rfl rfl rfl ?_
                  obtain ⟨j11, hjj11, hlj11, h⟩ := h
                  refine e_iast q_141 rfl rfl (by decide) hjj11 hlj11 ?_
                  refine e_push q_141 rfl ?_
                  refine e_store (ls' := [some (.inr (some 60)), some (.inl x1), some (.inl x2), some (.inl x3), some (.inl 0)]) q_141 rfl (Nat.le_of_ble_eq_true rfl) rfl rfl ?_
                  exact h
                · replace h := h.2 c
                  refine e_push q_141 rfl ?_
                  refine e_goto q_141 rfl ?_
                  obtain ⟨j12, hjj12, hlj12, h⟩ := h
                  refine e_iast q_141 rfl rfl (by decide) hjj12 hlj12 ?_
                  refine e_push q_141 rfl ?_
                  refine e_store (ls' := [some (.inr (some 60)), some (.inl x1), some (.inl x2), some (.inl x3), some (.inl 0)]) q_141 rfl (Nat.le_of_ble_eq_true rfl) rfl rfl ?_
                  exact h
              · replace h := h.2 c
                refine e_load q_141 rfl rfl rfl ?_
                refine e_push q_141 rfl ?_
                exact e_virt q_141 rfl rfl (Nat.le_of_ble_eq_true rfl) rfl rfl (Nat.le_of_ble_eq_true rfl) rfl h
            · replace h := h.2 c
              refine e_load q_141 rfl rfl rfl ?_
              refine e_push q_141 rfl ?_
              exact e_virt q_141 rfl rfl (Nat.le_of_ble_eq_true rfl) rfl rfl (Nat.le_of_ble_eq_true rfl) rfl h
          · replace h := h.2 c
            refine e_load q_141 rfl rfl rfl ?_
            refine e_push q_141 rfl ?_
            exact e_virt q_141 rfl rfl (Nat.le_of_ble_eq_true rfl) rfl rfl (Nat.le_of_ble_eq_true rfl) rfl h
theorem g_141_17 {S : Nat × (Nat → Int32)} {d : Nat} {σ : Mem} {Q : MQ1} {o0 : Option MV} {o1 : Option MV} {o2 : Option MV} {o3 : Option MV} {o4 : Option MV} {y0 : Int32}  (h : Q [.inl y0] σ) : Ev S (d + 1) 141 17 [o0, o1, o2, o3, o4] [.inl y0] σ Q := by
  exact e_ireturn q_141 rfl rfl h
theorem g_141_47 {S : Nat × (Nat → Int32)} {d : Nat} {σ : Mem} {Q : MQ1} {x1 : Int32} {o2 : Option MV} {o3 : Option MV} {x4 : Int32}  (h : ((6 ≤ x4 → (∃ j1 : Nat, x1 = nI j1 ∧ j1 < 4 ∧ Q [.inl (σ 64 j1)] σ)) ∧ (¬ (6 ≤ x4) → (∃ j2 : Nat, (6 * x1) + x4 = nI j2 ∧ j2 < 24 ∧ Ev S (d + 1) 141 47 [some (.inr (some 60)), some (.inl x1), o2, o3, some (.inl (x4 + 1))] [] (up σ 65 j2 0) Q)))) : Ev S (d + 1) 141 47 [some (.inr (some 60)), some (.inl x1), o2, o3, some (.inl x4)] [] σ Q := by
  refine e_load q_141 rfl rfl rfl ?_
  refine e_push q_141 rfl ?_
  refine e_icmp (P := 6 ≤ x4) q_141 rfl m_c3 (fun c => ?_) (fun c => ?_)
  · replace h := h.1 c
    refine e_load q_141 rfl rfl rfl ?_
    refine e_getR q_141 rfl rfl rfl ?_
    refine e_load q_141 rfl rfl rfl ?_
    obtain ⟨j1, hjj1, hlj1, h⟩ := h
    refine e_iald q_141 rfl rfl (by decide) hjj1 hlj1 ?_
    exact e_ireturn q_141 rfl rfl h
  · replace h := h.2 c
    refine e_load q_141 rfl rfl rfl ?_
    refine e_getR q_141 rfl rfl rfl ?_
    refine e_push q_141 rfl ?_
    refine e_load q_141 rfl rfl rfl ?_
    refine e_bin (r := 6 * x1) q_141 rfl rfl ?_
    refine e_load q_141 rfl rfl rfl ?_
    refine e_bin (r := (6 * x1) + x4) q_141 rfl rfl ?_
    refine e_push q_141 rfl ?_
    obtain ⟨j2, hjj2, hlj2, h⟩ := h
    refine e_iast q_141 rfl rfl (by decide) hjj2 hlj2 ?_
    refine e_iinc (ls' := [some (.inr (some 60)), some (.inl x1), o2, o3, some (.inl (x4 + 1))]) q_141 rfl rfl rfl ?_
    refine e_goto q_141 rfl ?_
    exact h
theorem g_141_30 {S : Nat × (Nat → Int32)} {d : Nat} {σ : Mem} {Q : MQ1} {o0 : Option MV} {o1 : Option MV} {o2 : Option MV} {o3 : Option MV} {o4 : Option MV} {y0 : Int32}  (h : Q [.inl y0] σ) : Ev S (d + 1) 141 30 [o0, o1, o2, o3, o4] [.inl y0] σ Q := by
  exact e_ireturn q_141 rfl rfl h
theorem g_141_23 {S : Nat × (Nat → Int32)} {d : Nat} {σ : Mem} {Q : MQ1} {o0 : Option MV} {o1 : Option MV} {o2 : Option MV} {o3 : Option MV} {o4 : Option MV} {y0 : Int32}  (h : Q [.inl y0] σ) : Ev S (d + 1) 141 23 [o0, o1, o2, o3, o4] [.inl y0] σ Q := by
  exact e_ireturn q_141 rfl rfl h
theorem q_142 : m_code 142 = mc_142 := rfl
theorem g_142_0 {S : Nat × (Nat → Int32)} {d : Nat} {σ : Mem} {Q : MQ1} {x1 : Int32} {x2 : Int32} {x3 : Int32}  (h : Ec S d 140 [.inl x1] σ (fun rv σ' => Ev S (d + 1) 142 2 [some (.inr (some 60)), some (.inl x1), some (.inl x2), some (.inl x3)] (rv ++ []) σ' Q)) : Ev S (d + 1) 142 0 [some (.inr (some 60)), some (.inl x1), some (.inl x2), some (.inl x3)] [] σ Q := by
  refine e_load q_142 rfl rfl rfl ?_
  exact e_stat q_142 rfl (Nat.le_of_ble_eq_true rfl) rfl rfl (Nat.le_of_ble_eq_true rfl) h
theorem g_142_2 {S : Nat × (Nat → Int32)} {d : Nat} {σ : Mem} {Q : MQ1} {x1 : Int32} {x2 : Int32} {x3 : Int32} {y0 : Int32}  (h : (((¬ y0 = 0) → (∃ j1 : Nat, x1 = nI j1 ∧ j1 < 4 ∧ (((¬ (σ 63 j1) = 0) → ((x2 < 0 → Ec S d 118 [.inr (some 60), .inl (-100001)] σ (fun rv σ' => Ev S (d + 1) 142 27 [some (.inr (some 60)), some (.inl x1), some (.inl x2), some (.inl x3)] (rv ++ []) σ' Q)) ∧ (¬ (x2 < 0) → (∃ j2 : Nat, x1 = nI j2 ∧ j2 < 4 ∧ ((x2 < (σ 64 j2) → (∃ j3 : Nat, x1 = nI j3 ∧ j3 < 4 ∧ (((¬ (σ 63 j3) = 8) → (∃ j4 : Nat, x1 = nI j4 ∧ j4 < 4 ∧ (((¬ (σ 63 j4) = 16) → (∃ j5 : Nat, (6 * x1) + x2 = nI j5 ∧ j5 < 24 ∧ Q [.inl 0] (up σ 65 j5 x3))) ∧ (¬ (¬ (σ 63 j4) = 16) → (∃ j6 : Nat, (6 * x1) + x2 = nI j6 ∧ j6 < 24 ∧ Q [.inl 0] (up σ 65 j6 (x3.toInt16.toInt32))))))) ∧ (¬ (¬ (σ 63 j3) = 8) → (∃ j7 : Nat, (6 * x1) + x2 = nI j7 ∧ j7 < 24 ∧ Q [.inl 0] (up σ 65 j7 (x3.toInt8.toInt32))))))) ∧ (¬ (x2 < (σ 64 j2)) → Ec S d 118 [.inr (some 60), .inl (-100001)] σ (fun rv σ' => Ev S (d + 1) 142 27 [some (.inr (some 60)), some (.inl x1), some (.inl x2), some (.inl x3)] (rv ++ []) σ' Q))))))) ∧ (¬ (¬ (σ 63 j1) = 0) → Ec S d 118 [.inr (some 60), .inl (-100002)] σ (fun rv σ' => Ev S (d + 1) 142 15 [some (.inr (some 60)), some (.inl x1), some (.inl x2), some (.inl x3)] (rv ++ []) σ' Q))))) ∧ (¬ (¬ y0 = 0) → Ec S d 118 [.inr (some 60), .inl (-100001)] σ (fun rv σ' => Ev S (d + 1) 142 6 [some (.inr (some 60)), some (.inl x1), some (.inl x2), some (.inl x3)] (rv ++ []) σ' Q)))) : Ev S (d + 1) 142 2 [some (.inr (some 60)), some (.inl x1), some (.inl x2), some (.inl x3)] [.inl y0] σ Q := by
  refine e_if (P := ¬ y0 = 0) q_142 rfl m_c1 (fun c => ?_) (fun c => ?_)
  · replace h := h.1 c
    refine e_load q_142 rfl rfl rfl ?_
    refine e_getR q_142 rfl rfl rfl ?_
    refine e_load q_142 rfl rfl rfl ?_
    obtain ⟨j1, hjj1, hlj1, h⟩ := h
    refine e_iald q_142 rfl rfl (by decide) hjj1 hlj1 ?_
    refine e_if (P := ¬ (σ 63 j1) = 0) q_142 rfl m_c1 (fun c => ?_) (fun c => ?_)
    · replace h := h.1 c
      refine e_load q_142 rfl rfl rfl ?_
      refine e_if (P := x2 < 0) q_142 rfl m_c2 (fun c => ?_) (fun c => ?_)
      · replace h := h.1 c
        refine e_load q_142 rfl rfl rfl ?_
        refine e_push q_142 rfl ?_
        exact e_virt q_142 rfl rfl (Nat.le_of_ble_eq_true rfl) rfl rfl (Nat.le_of_ble_eq_true rfl) rfl h
      · replace h := h.2 c
        refine e_load q_142 rfl rfl rfl ?_
        refine e_load q_142 rfl rfl rfl ?_
        refine e_getR q_142 rfl rfl rfl ?_
        refine e_load q_142 rfl rfl rfl ?_
        obtain ⟨j2, hjj2, hlj2, h⟩ := h
        refine e_iald q_142 rfl rfl (by decide) hjj2 hlj2 ?_
        refine e_icmp (P := x2 < (σ 64 j2)) q_142 rfl m_c2 (fun c => ?_) (fun c => ?_)
        · replace h := h.1 c
          refine e_load q_142 rfl rfl rfl ?_
          refine e_getR q_142 rfl rfl rfl ?_
          refine e_push q_142 rfl ?_
          refine e_load q_142 rfl rfl rfl ?_
          refine e_bin (r := 6 * x1) q_142 rfl rfl ?_
          refine e_load q_142 rfl rfl rfl ?_
          refine e_bin (r := (6 * x1) + x2) q_142 rfl rfl ?_
          refine e_load q_142 rfl rfl rfl ?_
          refine e_getR q_142 rfl rfl rfl ?_
          refine e_load q_142 rfl rfl rfl ?_
          obtain ⟨j3, hjj3, hlj3, h⟩ := h
          refine e_iald q_142 rfl rfl (by decide) hjj3 hlj3 ?_
          refine e_push q_142 rfl ?_
          refine e_icmp (P := ¬ (σ 63 j3) = 8) q_142 rfl m_c1 (fun c => ?_) (fun c => ?_)
          · replace h := h.1 c
            refine e_load q_142 rfl rfl rfl ?_
            refine e_getR q_142 rfl rfl rfl ?_
            refine e_load q_142 rfl rfl rfl ?_
            obtain ⟨j4, hjj4, hlj4, h⟩ := h
            refine e_iald q_142 rfl rfl (by decide) hjj4 hlj4 ?_
            refine e_push q_142 rfl ?_
            refine e_icmp (P := ¬ (σ 63 j4) = 16) q_142 rfl m_c1 (fun c => ?_) (fun c => ?_)
            · replace h := h.1 c
              refine e_load q_142 rfl rfl rfl ?_
              obtain ⟨j5, hjj5, hlj5, h⟩ := h
              refine e_iast q_142 rfl rfl (by decide) hjj5 hlj5 ?_
              refine e_push q_142 rfl ?_
              exact e_ireturn q_142 rfl rfl h
            · replace h := h.2 c
              refine e_load q_142 rfl rfl rfl ?_
              refine e_un (r := x3.toInt16.toInt32) q_142 rfl rfl ?_
              refine e_goto q_142 rfl ?_
              obtain ⟨j6, hjj6, hlj6, h⟩ := h
              refine e_iast q_142 rfl rfl (by decide) hjj6 hlj6 ?_
              refine e_push q_142 rfl ?_
              exact e_ireturn q_142 rfl rfl h
          · replace h := h.2 c
            refine e_load q_142 rfl rfl rfl ?_
            refine e_un (r := x3.toInt8.toInt32) q_142 rfl rfl ?_
            refine e_goto q_142 rfl ?_
            obtain ⟨j7, hjj7, hlj7, h⟩ := h
            refine e_iast q_142 rfl rfl (by decide) hjj7 hlj7 ?_
            refine e_push q_142 rfl ?_
            exact e_ireturn q_142 rfl rfl h
        · replace h := h.2 c
          refine e_load q_142 rfl rfl rfl ?_
          refine e_push q_142 rfl ?_
          exact e_virt q_142 rfl rfl (Nat.le_of_ble_eq_true rfl) rfl rfl (Nat.le_of_ble_eq_true rfl) rfl h
    · replace h := h.2 c
      refine e_load q_142 rfl rfl rfl ?_
      refine e_push q_142 rfl ?_
      exact e_virt q_142 rfl rfl (Nat.le_of_ble_eq_true rfl) rfl rfl (Nat.le_of_ble_eq_true rfl) rfl h
  · replace h := h.2 c
    refine e_load q_142 rfl rfl rfl ?_
    refine e_push q_142 rfl ?_
    exact e_virt q_142 rfl rfl (Nat.le_of_ble_eq_true rfl) rfl rfl (Nat.le_of_ble_eq_true rfl) rfl h
theorem g_142_27 {S : Nat × (Nat → Int32)} {d : Nat} {σ : Mem} {Q : MQ1} {o0 : Option MV} {o1 : Option MV} {o2 : Option MV} {o3 : Option MV} {y0 : Int32}  (h : Q [.inl y0] σ) : Ev S (d + 1) 142 27 [o0, o1, o2, o3] [.inl y0] σ Q := by
  exact e_ireturn q_142 rfl rfl h
theorem g_142_15 {S : Nat × (Nat → Int32)} {d : Nat} {σ : Mem} {Q : MQ1} {o0 : Option MV} {o1 : Option MV} {o2 : Option MV} {o3 : Option MV} {y0 : Int32}  (h : Q [.inl y0] σ) : Ev S (d + 1) 142 15 [o0, o1, o2, o3] [.inl y0] σ Q := by
  exact e_ireturn q_142 rfl rfl h
theorem g_142_6 {S : Nat × (Nat → Int32)} {d : Nat} {σ : Mem} {Q : MQ1} {o0 : Option MV} {o1 : Option MV} {o2 : Option MV} {o3 : Option MV} {y0 : Int32}  (h : Q [.inl y0] σ) : Ev S (d + 1) 142 6 [o0, o1, o2, o3] [.inl y0] σ Q := by
  exact e_ireturn q_142 rfl rfl h
theorem q_143 : m_code 143 = mc_143 := rfl
theorem g_143_0 {S : Nat × (Nat → Int32)} {d : Nat} {σ : Mem} {Q : MQ1} {x1 : Int32} {x2 : Int32} {x3 : Int32}  (h : ((x2 < 0 → Q [.inl 0] σ) ∧ (¬ (x2 < 0) → ((x3 < 0 → Q [.inl 0] σ) ∧ (¬ (x3 < 0) → (∃ j1 : Nat, x1 = nI j1 ∧ j1 < 4 ∧ (((σ 64 j1) < x3 → Q [.inl 0] σ) ∧ (¬ ((σ 64 j1) < x3) → (∃ j2 : Nat, x1 = nI j2 ∧ j2 < 4 ∧ ((((σ 64 j2) - x3) < x2 → Q [.inl 0] σ) ∧ (¬ (((σ 64 j2) - x3) < x2) → Q [.inl 1] σ))))))))))) : Ev S d 143 0 [some (.inr (some 60)), some (.inl x1), some (.inl x2), some (.inl x3)] [] σ Q := by
  refine e_load q_143 rfl rfl rfl ?_
  refine e_if (P := x2 < 0) q_143 rfl m_c2 (fun c => ?_) (fun c => ?_)
  · replace h := h.1 c
    refine e_push q_143 rfl ?_
    exact e_zreturn q_143 rfl rfl (by decide) h
  · replace h := h.2 c
    refine e_load q_143 rfl rfl rfl ?_
    refine e_if (P := x3 < 0) q_143 rfl m_c2 (fun c => ?_) (fun c => ?_)
    · replace h := h.1 c
      refine e_push q_143 rfl ?_
      exact e_zreturn q_143 rfl rfl (by decide) h
    · replace h := h.2 c
      refine e_load q_143 rfl rfl rfl ?_
      refine e_load q_143 rfl rfl rfl ?_
      refine e_getR q_143 rfl rfl rfl ?_
      refine e_load q_143 rfl rfl rfl ?_
      obtain ⟨j1, hjj1, hlj1, h⟩ := h
      refine e_iald q_143 rfl rfl (by decide) hjj1 hlj1 ?_
      refine e_icmp (P := (σ 64 j1) < x3) q_143 rfl m_c4 (fun c => ?_) (fun c => ?_)
      · replace h := h.1 c
        refine e_push q_143 rfl ?_
        exact e_zreturn q_143 rfl rfl (by decide) h
      · replace h := h.2 c
        refine e_load q_143 rfl rfl rfl ?_
        refine e_load q_143 rfl rfl rfl ?_
        refine e_getR q_143 rfl rfl rfl ?_
        refine e_load q_143 rfl rfl rfl ?_
        obtain ⟨j2, hjj2, hlj2, h⟩ := h
        refine e_iald q_143 rfl rfl (by decide) hjj2 hlj2 ?_
        refine e_load q_143 rfl rfl rfl ?_
        refine e_bin (r := (σ 64 j2) - x3) q_143 rfl rfl ?_
        refine e_icmp (P := ((σ 64 j2) - x3) < x2) q_143 rfl m_c4 (fun c => ?_) (fun c => ?_)
        · replace h := h.1 c
          refine e_push q_143 rfl ?_
          exact e_zreturn q_143 rfl rfl (by decide) h
        · replace h := h.2 c
          refine e_push q_143 rfl ?_
          refine e_goto q_143 rfl ?_
          exact e_zreturn q_143 rfl rfl (by decide) h
theorem q_144 : m_code 144 = mc_144 := rfl
theorem g_144_0 {S : Nat × (Nat → Int32)} {d : Nat} {σ : Mem} {Q : MQ1} {x1 : Int32} {x2 : Int32} {x3 : Int32} {x4 : Int32} {x5 : Int32}  (h : Ec S d 140 [.inl x1] σ (fun rv σ' => Ev S (d + 1) 144 2 [some (.inr (some 60)), some (.inl x1), some (.inl x2), some (.inl x3), some (.inl x4), some (.inl x5), none] (rv ++ []) σ' Q)) : Ev S (d + 1) 144 0 [some (.inr (some 60)), some (.inl x1), some (.inl x2), some (.inl x3), some (.inl x4), some (.inl x5), none] [] σ Q := by
  refine e_load q_144 rfl rfl rfl ?_
  exact e_stat q_144 rfl (Nat.le_of_ble_eq_true rfl) rfl rfl (Nat.le_of_ble_eq_true rfl) h
theorem g_144_2 {S : Nat × (Nat → Int32)} {d : Nat} {σ : Mem} {Q : MQ1} {x1 : Int32} {x2 : Int32} {x3 : Int32} {x4 : Int32} {x5 : Int32} {o6 : Option MV} {y0 : Int32}  (h : ((y0 = 0 → Ec S d 118 [.inr (some 60), .inl (-100001)] σ (fun rv σ' => Ev S (d + 1) 144 9 [some (.inr (some 60)), some (.inl x1), some (.inl x2), some (.inl x3), some (.inl x4), some (.inl x5), o6] (rv ++ []) σ' Q)) ∧ (¬ (y0 = 0) → Ec S d 140 [.inl x3] σ (fun rv σ' => Ev S (d + 1) 144 5 [some (.inr (some 60)), some (.inl x1), some (.inl x2), some (.inl x3), some (.inl x4), some (.inl x5), o6] (rv ++ []) σ' Q)))) : Ev S (d + 1) 144 2 [some (.inr (some 60)), some (.inl x1), some (.inl x2), some (.inl x3), some (.inl x4), some (.inl x5), o6] [.inl y0] σ Q := by
  refine e_if (P := y0 = 0) q_144 rfl m_c0 (fun c => ?_) (fun c => ?_)
  · replace h := h.1 c
    refine e_load q_144 rfl rfl rfl ?_
    refine e_push q_144 rfl ?_
    exact e_virt q_144 rfl rfl (Nat.le_of_ble_eq_true rfl) rfl rfl (Nat.le_of_ble_eq_true rfl) rfl h
  · replace h := h.2 c
    refine e_load q_144 rfl rfl rfl ?_
    exact e_stat q_144 rfl (Nat.le_of_ble_eq_true rfl) rfl rfl (Nat.le_of_ble_eq_true rfl) h
theorem g_144_9 {S : Nat × (Nat → Int32)} {d : Nat} {σ : Mem} {Q : MQ1} {o0 : Option MV} {o1 : Option MV} {o2 : Option MV} {o3 : Option MV} {o4 : Option MV} {o5 : Option MV} {o6 : Option MV} {y0 : Int32}  (h : Q [.inl y0] σ) : Ev S (d + 1) 144 9 [o0, o1, o2, o3, o4, o5, o6] [.inl y0] σ Q := by
  exact e_ireturn q_144 rfl rfl h
theorem g_144_5 {S : Nat × (Nat → Int32)} {d : Nat} {σ : Mem} {Q : MQ1} {x1 : Int32} {x2 : Int32} {x3 : Int32} {x4 : Int32} {x5 : Int32} {o6 : Option MV} {y0 : Int32}  (h : (((¬ y0 = 0) → (∃ j1 : Nat, x1 = nI j1 ∧ j1 < 4 ∧ (((σ 63 j1) = 0 → Ec S d 118 [.inr (some 60), .inl (-100002)] σ (fun rv σ' => Ev S (d + 1) 144 23 [some (.inr (some 60)), some (.inl x1), some (.inl x2), some (.inl x3), some (.inl x4), some (.inl x5), o6] (rv ++ []) σ' Q)) ∧ (¬ ((σ 63 j1) = 0) → (∃ j2 : Nat, x3 = nI j2 ∧ j2 < 4 ∧ (((¬ (σ 63 j2) = 0) → (∃ j3 : Nat, x1 = nI j3 ∧ j3 < 4 ∧ (∃ j4 : Nat, x3 = nI j4 ∧ j4 < 4 ∧ (((σ 63 j3) = (σ 63 j4) → Ec S d 143 [.inr (some 60), .inl x1, .inl x2, .inl x5] σ (fun rv σ' => Ev S (d + 1) 144 42 [some (.inr (some 60)), some (.inl x1), some (.inl x2), some (.inl x3), some (.inl x4), some (.inl x5), o6] (rv ++ []) σ' Q)) ∧ (¬ ((σ 63 j3) = (σ 63 j4)) → Ec S d 118 [.inr (some 60), .inl (-100004)] σ (fun rv σ' => Ev S (d + 1) 144 36 [some (.inr (some 60)), some (.inl x1), some (.inl x2), some (.inl x3), some (.inl x4), some (.inl x5), o6] (rv ++ []) σ' Q)))))) ∧ (¬ (¬ (σ 63 j2) = 0) → Ec S d 118 [.inr (some 60), .inl (-100002)] σ (fun rv σ' => Ev S (d + 1) 144 23 [some (.inr (some 60)), some (.inl x1), some (.inl x2), some (.inl x3), some (.inl x4), some (.inl x5), o6] (rv ++ []) σ' Q)))))))) ∧ (¬ (¬ y0 = 0) → Ec S d 118 [.inr (some 60), .inl (-100001)] σ (fun rv σ' => Ev S (d + 1) 144 9 [some (.inr (some 60)), some (.inl x1), some (.inl x2), some (.inl x3), some (.inl x4), some (.inl x5), o6] (rv ++ []) σ' Q)))) : Ev S (d + 1) 144 5 [some (.inr (some 60)), some (.inl x1), some (.inl x2), some (.inl x3), some (.inl x4), some (.inl x5), o6] [.inl y0] σ Q := by
  refine e_if (P := ¬ y0 = 0) q_144 rfl m_c1 (fun c => ?_) (fun c => ?_)
  · replace h := h.1 c
    refine e_load q_144 rfl rfl rfl ?_
    refine e_getR q_144 rfl rfl rfl ?_
    refine e_load q_144 rfl rfl rfl ?_
    obtain ⟨j1, hjj1, hlj1, h⟩ := h
    refine e_iald q_144 rfl rfl (by decide) hjj1 hlj1 ?_
    refine e_if (P := (σ 63 j1) = 0) q_144 rfl m_c0 (fun c => ?_) (fun c => ?_)
    · replace h := h.1 c
      refine e_load q_144 rfl rfl rfl ?_
      refine e_push q_144 rfl ?_
      exact e_virt q_144 rfl rfl (Nat.le_of_ble_eq_true rfl) rfl rfl (Nat.le_of_ble_eq_true rfl) rfl h
    · replace h := h.2 c
      refine e_load q_144 rfl rfl rfl ?_
      refine e_getR q_144 rfl rfl rfl ?_
      refine e_load q_144 rfl rfl rfl ?_
      obtain ⟨j2, hjj2, hlj2, h⟩ := h
      refine e_iald q_144 rfl rfl (by decide) hjj2 hlj2 ?_
      refine e_if (P := ¬ (σ 63 j2) = 0) q_144 rfl m_c1 (fun c => ?_) (fun c => ?_)
      · replace h := h.1 c
        refine e_load q_144 rfl rfl rfl ?_
        refine e_getR q_144 rfl rfl rfl ?_
        refine e_load q_144 rfl rfl rfl ?_
        obtain ⟨j3, hjj3, hlj3, h⟩ := h
        refine e_iald q_144 rfl rfl (by decide) hjj3 hlj3 ?_
        refine e_load q_144 rfl rfl rfl ?_
        refine e_getR q_144 rfl rfl rfl ?_
        refine e_load q_144 rfl rfl rfl ?_
        obtain ⟨j4, hjj4, hlj4, h⟩ := h
        refine e_iald q_144 rfl rfl (by decide) hjj4 hlj4 ?_
        refine e_icmp (P := (σ 63 j3) = (σ 63 j4)) q_144 rfl m_c0 (fun c => ?_) (fun c => ?_)
        · replace h := h.1 c
          refine e_load q_144 rfl rfl rfl ?_
          refine e_load q_144 rfl rfl rfl ?_
          refine e_load q_144 rfl rfl rfl ?_
          refine e_load q_144 rfl rfl rfl ?_
          exact e_virt q_144 rfl rfl (Nat.le_of_ble_eq_true rfl) rfl rfl (Nat.le_of_ble_eq_true rfl) rfl h
        · replace h := h.2 c
          refine e_load q_144 rfl rfl rfl ?_
          refine e_push q_144 rfl ?_
          exact e_virt q_144 rfl rfl (Nat.le_of_ble_eq_true rfl) rfl rfl (Nat.le_of_ble_eq_true rfl) rfl h
      · replace h := h.2 c
        refine e_load q_144 rfl rfl rfl ?_
        refine e_push q_144 rfl ?_
        exact e_virt q_144 rfl rfl (Nat.le_of_ble_eq_true rfl) rfl rfl (Nat.le_of_ble_eq_true rfl) rfl h
  · replace h := h.2 c
    refine e_load q_144 rfl rfl rfl ?_
    refine e_push q_144 rfl ?_
    exact e_virt q_144 rfl rfl (Nat.le_of_ble_eq_true rfl) rfl rfl (Nat.le_of_ble_eq_true rfl) rfl h
theorem g_144_23 {S : Nat × (Nat → Int32)} {d : Nat} {σ : Mem} {Q : MQ1} {o0 : Option MV} {o1 : Option MV} {o2 : Option MV} {o3 : Option MV} {o4 : Option MV} {o5 : Option MV} {o6 : Option MV} {y0 : Int32}  (h : Q [.inl y0] σ) : Ev S (d + 1) 144 23 [o0, o1, o2, o3, o4, o5, o6] [.inl y0] σ Q := by
  exact e_ireturn q_144 rfl rfl h
theorem g_144_42 {S : Nat × (Nat → Int32)} {d : Nat} {σ : Mem} {Q : MQ1} {x1 : Int32} {x2 : Int32} {x3 : Int32} {x4 : Int32} {x5 : Int32} {o6 : Option MV} {y0 : Int32}  (h : ((y0 = 0 → Ec S d 118 [.inr (some 60), .inl (-100001)] σ (fun rv σ' => Ev S (d + 1) 144 52 [some (.inr (some 60)), some (.inl x1), some (.inl x2), some (.inl x3), some (.inl x4), some (.inl x5), o6] (rv ++ []) σ' Q)) ∧ (¬ (y0 = 0) → Ec S d 143 [.inr (some 60), .inl x3, .inl x4, .inl x5] σ (fun rv σ' => Ev S (d + 1) 144 48 [some (.inr (some 60)), some (.inl x1), some (.inl x2), some (.inl x3), some (.inl x4), some (.inl x5), o6] (rv ++ []) σ' Q)))) : Ev S (d + 1) 144 42 [some (.inr (some 60)), some (.inl x1), some (.inl x2), some (.inl x3), some (.inl x4), some (.inl x5), o6] [.inl y0] σ Q := by
  refine e_if (P := y0 = 0) q_144 rfl m_c0 (fun c => ?_) (fun c => ?_)
  · replace h := h.1 c
    refine e_load q_144 rfl rfl rfl ?_
    refine e_push q_144 rfl ?_
    exact e_virt q_144 rfl rfl (Nat.le_of_ble_eq_true rfl) rfl rfl (Nat.le_of_ble_eq_true rfl) rfl h
  · replace h := h.2 c
    refine e_load q_144 rfl rfl rfl ?_
    refine e_load q_144 rfl rfl rfl ?_
    refine e_load q_144 rfl rfl rfl ?_
    refine e_load q_144 rfl rfl rfl ?_
    exact e_virt q_144 rfl rfl (Nat.le_of_ble_eq_true rfl) rfl rfl (Nat.le_of_ble_eq_true rfl) rfl h
theorem g_144_36 {S : Nat × (Nat → Int32)} {d : Nat} {σ : Mem} {Q : MQ1} {o0 : Option MV} {o1 : Option MV} {o2 : Option MV} {o3 : Option MV} {o4 : Option MV} {o5 : Option MV} {o6 : Option MV} {y0 : Int32}  (h : Q [.inl y0] σ) : Ev S (d + 1) 144 36 [o0, o1, o2, o3, o4, o5, o6] [.inl y0] σ Q := by
  exact e_ireturn q_144 rfl rfl h
theorem g_144_52 {S : Nat × (Nat → Int32)} {d : Nat} {σ : Mem} {Q : MQ1} {o0 : Option MV} {o1 : Option MV} {o2 : Option MV} {o3 : Option MV} {o4 : Option MV} {o5 : Option MV} {o6 : Option MV} {y0 : Int32}  (h : Q [.inl y0] σ) : Ev S (d + 1) 144 52 [o0, o1, o2, o3, o4, o5, o6] [.inl y0] σ Q := by
  exact e_ireturn q_144 rfl rfl h
theorem g_144_48 {S : Nat × (Nat → Int32)} {d : Nat} {σ : Mem} {Q : MQ1} {x1 : Int32} {x2 : Int32} {x3 : Int32} {x4 : Int32} {x5 : Int32} {o6 : Option MV} {y0 : Int32}  (h : (((¬ y0 = 0) → Ev S (d + 1) 144 55 [some (.inr (some 60)), some (.inl x1), some (.inl x2), some (.inl x3), some (.inl x4), some (.inl x5), some (.inl 0)] [] σ Q) ∧ (¬ (¬ y0 = 0) → Ec S d 118 [.inr (some 60), .inl (-100001)] σ (fun rv σ' => Ev S (d + 1) 144 52 [some (.inr (some 60)), some (.inl x1), some (.inl x2), some (.inl x3), some (.inl x4), some (.inl x5), o6] (rv ++ []) σ' Q)))) : Ev S (d + 1) 144 48 [some (.inr (some 60)), some (.inl x1), some (.inl x2), some (.inl x3), some (.inl x4), some (.inl x5), o6] [.inl y0] σ Q := by
  refine e_if (P := ¬ y0 = 0) q_144 rfl m_c1 (fun c => ?_) (fun c => ?_)
  · replace h := h.1 c
    refine e_push q_144 rfl ?_
    refine e_store (ls' := [some (.inr (some 60)), some (.inl x1), some (.inl x2), some (.inl x3), some (.inl x4), some (.inl x5), some (.inl 0)]) q_144 rfl (Nat.le_of_ble_eq_true rfl) rfl rfl ?_
    exact h
  · replace h := h.2 c
    refine e_load q_144 rfl rfl rfl ?_
    refine e_push q_144 rfl ?_
    exact e_virt q_144 rfl rfl (Nat.le_of_ble_eq_true rfl) rfl rfl (Nat.le_of_ble_eq_true rfl) rfl h
theorem g_144_55 {S : Nat × (Nat → Int32)} {d : Nat} {σ : Mem} {Q : MQ1} {x1 : Int32} {x2 : Int32} {x3 : Int32} {x4 : Int32} {x5 : Int32} {x6 : Int32}  (h : ((x5 ≤ x6 → Ev S (d + 1) 144 76 [some (.inr (some 60)), some (.inl x1), some (.inl x2), some (.inl x3), some (.inl x4), some (.inl x5), some (.inl 0)] [] σ Q) ∧ (¬ (x5 ≤ x6) → (∃ j1 : Nat, ((6 * x1) + x2) + x6 = nI j1 ∧ j1 < 24 ∧ (∃ j2 : Nat, x6 = nI j2 ∧ j2 < 6 ∧ Ev S (d + 1) 144 55 [some (.inr (some 60)), some (.inl x1), some (.inl x2), some (.inl x3), some (.inl x4), some (.inl x5), some (.inl (x6 + 1))] [] (up σ 66 j2 (σ 65 j1)) Q))))) : Ev S (d + 1) 144 55 [some (.inr (some 60)), some (.inl x1), some (.inl x2), some (.inl x3), some (.inl x4), some (.inl x5), some (.inl x6)] [] σ Q := by
  refine e_load q_144 rfl rfl rfl ?_
  refine e_load q_144 rfl rfl rfl ?_
  refine e_icmp (P := x5 ≤ x6) q_144 rfl m_c3 (fun c => ?_) (fun c => ?_)
  · replace h := h.1 c
    refine e_push q_144 rfl ?_
    refine e_store (ls' := [some (.inr (some 60)), some (.inl x1), some (.inl x2), some (.inl x3), some (.inl x4), some (.inl x5), some (.inl 0)]) q_144 rfl (Nat.le_of_ble_eq_true rfl) rfl rfl ?_
    exact h
  · replace h := h.2 c
    refine e_load q_144 rfl rfl rfl ?_
    refine e_getR q_144 rfl rfl rfl ?_
    refine e_load q_144 rfl rfl rfl ?_
    refine e_load q_144 rfl rfl rfl ?_
    refine e_getR q_144 rfl rfl rfl ?_
    refine e_push q_144 rfl ?_
    refine e_load q_144 rfl rfl rfl ?_
    refine e_bin (r := 6 * x1) q_144 rfl rfl ?_
    refine e_load q_144 rfl rfl rfl ?_
    refine e_bin (r := (6 * x1) + x2) q_144 rfl rfl ?_
    refine e_load q_144 rfl rfl rfl ?_
    refine e_bin (r := ((6 * x1) + x2) + x6) q_144 rfl rfl ?_
    obtain ⟨j1, hjj1, hlj1, h⟩ := h
    refine e_iald q_144 rfl rfl (by decide) hjj1 hlj1 ?_
    obtain ⟨j2, hjj2, hlj2, h⟩ := h
    refine e_iast q_144 rfl rfl (by decide) hjj2 hlj2 ?_
    refine e_iinc (ls' := [some (.inr (some 60)), some (.inl x1), some (.inl x2), some (.inl x3), some (.inl x4), some (.inl x5), some (.inl (x6 + 1))]) q_144 rfl rfl rfl ?_
    refine e_goto q_144 rfl ?_
    exact h
theorem g_144_76 {S : Nat × (Nat → Int32)} {d : Nat} {σ : Mem} {Q : MQ1} {o1 : Option MV} {o2 : Option MV} {x3 : Int32} {x4 : Int32} {x5 : Int32} {x6 : Int32}  (h : ((x5 ≤ x6 → Q [.inl x5] σ) ∧ (¬ (x5 ≤ x6) → (∃ j1 : Nat, x6 = nI j1 ∧ j1 < 6 ∧ (∃ j2 : Nat, ((6 * x3) + x4) + x6 = nI j2 ∧ j2 < 24 ∧ Ev S (d + 1) 144 76 [some (.inr (some 60)), o1, o2, some (.inl x3), some (.inl x4), some (.inl x5), some (.inl (x6 + 1))] [] (up σ 65 j2 (σ 66 j1)) Q))))) : Ev S (d + 1) 144 76 [some (.inr (some 60)), o1, o2, some (.inl x3), some (.inl x4), some (.inl x5), some (.inl x6)] [] σ Q := by
  refine e_load q_144 rfl rfl rfl ?_
  refine e_load q_144 rfl rfl rfl ?_
  refine e_icmp (P := x5 ≤ x6) q_144 rfl m_c3 (fun c => ?_) (fun c => ?_)
  · replace h := h.1 c
    refine e_load q_144 rfl rfl rfl ?_
    exact e_ireturn q_144 rfl rfl h
  · replace h := h.2 c
    refine e_load q_144 rfl rfl rfl ?_
    refine e_getR q_144 rfl rfl rfl ?_
    refine e_push q_144 rfl ?_
    refine e_load q_144 rfl rfl rfl ?_
    refine e_bin (r := 6 * x3) q_144 rfl rfl ?_
    refine e_load q_144 rfl rfl rfl ?_
    refine e_bin (r := (6 * x3) + x4) q_144 rfl rfl ?_
    refine e_load q_144 rfl rfl rfl ?_
    refine e_bin (r := ((6 * x3) + x4) + x6) q_144 rfl rfl ?_
    refine e_load q_144 rfl rfl rfl ?_
    refine e_getR q_144 rfl rfl rfl ?_
    refine e_load q_144 rfl rfl rfl ?_
    obtain ⟨j1, hjj1, hlj1, h⟩ := h
    refine e_iald q_144 rfl rfl (by decide) hjj1 hlj1 ?_
    obtain ⟨j2, hjj2, hlj2, h⟩ := h
    refine e_iast q_144 rfl rfl (by decide) hjj2 hlj2 ?_
    refine e_iinc (ls' := [some (.inr (some 60)), o1, o2, some (.inl x3), some (.inl x4), some (.inl x5), some (.inl (x6 + 1))]) q_144 rfl rfl rfl ?_
    refine e_goto q_144 rfl ?_
    exact h
theorem q_145 : m_code 145 = mc_145 := rfl
theorem g_145_0 {S : Nat × (Nat → Int32)} {d : Nat} {σ : Mem} {Q : MQ1} {x1 : Int32}  (h : Ec S d 140 [.inl x1] σ (fun rv σ' => Ev S (d + 1) 145 2 [some (.inr (some 60)), some (.inl x1), none, none] (rv ++ []) σ' Q)) : Ev S (d + 1) 145 0 [some (.inr (some 60)), some (.inl x1), none, none] [] σ Q := by
  refine e_load q_145 rfl rfl rfl ?_
  exact e_stat q_145 rfl (Nat.le_of_ble_eq_true rfl) rfl rfl (Nat.le_of_ble_eq_true rfl) h
theorem g_145_2 {S : Nat × (Nat → Int32)} {d : Nat} {σ : Mem} {Q : MQ1} {x1 : Int32} {o2 : Option MV} {o3 : Option MV} {y0 : Int32}  (h : (((¬ y0 = 0) → (∃ j1 : Nat, x1 = nI j1 ∧ j1 < 4 ∧ (((¬ (σ 63 j1) = 0) → Ev S (d + 1) 145 18 [some (.inr (some 60)), some (.inl x1), some (.inl 0), o3] [] σ Q) ∧ (¬ (¬ (σ 63 j1) = 0) → Ec S d 118 [.inr (some 60), .inl (-100002)] σ (fun rv σ' => Ev S (d + 1) 145 15 [some (.inr (some 60)), some (.inl x1), o2, o3] (rv ++ []) σ' Q))))) ∧ (¬ (¬ y0 = 0) → Ec S d 118 [.inr (some 60), .inl (-100001)] σ (fun rv σ' => Ev S (d + 1) 145 6 [some (.inr (some 60)), some (.inl x1), o2, o3] (rv ++ []) σ' Q)))) : Ev S (d + 1) 145 2 [some (.inr (some 60)), some (.inl x1), o2, o3] [.inl y0] σ Q := by
  refine e_if (P := ¬ y0 = 0) q_145 rfl m_c1 (fun c => ?_) (fun c => ?_)
  · replace h := h.1 c
    refine e_load q_145 rfl rfl rfl ?_
    refine e_getR q_145 rfl rfl rfl ?_
    refine e_load q_145 rfl rfl rfl ?_
    obtain ⟨j1, hjj1, hlj1, h⟩ := h
    refine e_iald q_145 rfl rfl (by decide) hjj1 hlj1 ?_
    refine e_if (P := ¬ (σ 63 j1) = 0) q_145 rfl m_c1 (fun c => ?_) (fun c => ?_)
    · replace h := h.1 c
      refine e_push q_145 rfl ?_
      refine e_store (ls' := [some (.inr (some 60)), some (.inl x1), some (.inl 0), o3]) q_145 rfl (Nat.le_of_ble_eq_true rfl) rfl rfl ?_
      exact h
    · replace h := h.2 c
      refine e_load q_145 rfl rfl rfl ?_
      refine e_push q_145 rfl ?_
      exact e_virt q_145 rfl rfl (Nat.le_of_ble_eq_true rfl) rfl rfl (Nat.le_of_ble_eq_true rfl) rfl h
  · replace h := h.2 c
    refine e_load q_145 rfl rfl rfl ?_
    refine e_push q_145 rfl ?_
    exact e_virt q_145 rfl rfl (Nat.le_of_ble_eq_true rfl) rfl rfl (Nat.le_of_ble_eq_true rfl) rfl h
theorem g_145_18 {S : Nat × (Nat → Int32)} {d : Nat} {σ : Mem} {Q : MQ1} {x1 : Int32} {x2 : Int32} {o3 : Option MV}  (h : (∃ j1 : Nat, x1 = nI j1 ∧ j1 < 4 ∧ (((σ 64 j1) ≤ x2 → Ec S d 126 [.inr (some 60)] σ (fun rv σ' => Ev S (d + 1) 145 42 [some (.inr (some 60)), some (.inl x1), some (.inl x2), o3] (rv ++ []) σ' Q)) ∧ (¬ ((σ 64 j1) ≤ x2) → (∃ j2 : Nat, (6 * x1) + x2 = nI j2 ∧ j2 < 24 ∧ (((σ 65 j2) ≤ 40 → Ev S (d + 1) 145 18 [some (.inr (some 60)), some (.inl x1), some (.inl (x2 + 1)), o3] [] σ Q) ∧ (¬ ((σ 65 j2) ≤ 40) → Ec S d 118 [.inr (some 60), .inl (-100001)] σ (fun rv σ' => Ev S (d + 1) 145 37 [some (.inr (some 60)), some (.inl x1), some (.inl x2), o3] (rv ++ []) σ' Q)))))))) : Ev S (d + 1) 145 18 [some (.inr (some 60)), some (.inl x1), some (.inl x2), o3] [] σ Q := by
  refine e_load q_145 rfl rfl rfl ?_
  refine e_load q_145 rfl rfl rfl ?_
  refine e_getR q_145 rfl rfl rfl ?_
  refine e_load q_145 rfl rfl rfl ?_
  obtain ⟨j1, hjj1, hlj1, h⟩ := h
  refine e_iald q_145 rfl rfl (by decide) hjj1 hlj1 ?_
  refine e_icmp (P := (σ 64 j1) ≤ x2) q_145 rfl m_c3 (fun c => ?_) (fun c => ?_)
  · replace h := h.1 c
    refine e_load q_145 rfl rfl rfl ?_
    exact e_virt q_145 rfl rfl (Nat.le_of_ble_eq_true rfl) rfl rfl (Nat.le_of_ble_eq_true rfl) rfl h
  · replace h := h.2 c
    refine e_load q_145 rfl rfl rfl ?_
    refine e_getR q_145 rfl rfl rfl ?_
    refine e_push q_145 rfl ?_
    refine e_load q_145 rfl rfl rfl ?_
    refine e_bin (r := 6 * x1) q_145 rfl rfl ?_
    refine e_load q_145 rfl rfl rfl ?_
    refine e_bin (r := (6 * x1) + x2) q_145 rfl rfl ?_
    obtain ⟨j2, hjj2, hlj2, h⟩ := h
    refine e_iald q_145 rfl rfl (by decide) hjj2 hlj2 ?_
    refine e_push q_145 rfl ?_
    refine e_icmp (P := (σ 65 j2) ≤ 40) q_145 rfl m_c5 (fun c => ?_) (fun c => ?_)
    · replace h := h.1 c
      refine e_iinc (ls' := [some (.inr (some 60)), some (.inl x1), some (.inl (x2 + 1)), o3]) q_145 rfl rfl rfl ?_
      refine e_goto q_145 rfl ?_
      exact h
    · replace h := h.2 c
      refine e_load q_145 rfl rfl rfl ?_
      refine e_push q_145 rfl ?_
      exact e_virt q_145 rfl rfl (Nat.le_of_ble_eq_true rfl) rfl rfl (Nat.le_of_ble_eq_true rfl) rfl h
theorem g_145_15 {S : Nat × (Nat → Int32)} {d : Nat} {σ : Mem} {Q : MQ1} {o0 : Option MV} {o1 : Option MV} {o2 : Option MV} {o3 : Option MV} {y0 : Int32}  (h : Q [.inl y0] σ) : Ev S (d + 1) 145 15 [o0, o1, o2, o3] [.inl y0] σ Q := by
  exact e_ireturn q_145 rfl rfl h
theorem g_145_6 {S : Nat × (Nat → Int32)} {d : Nat} {σ : Mem} {Q : MQ1} {o0 : Option MV} {o1 : Option MV} {o2 : Option MV} {o3 : Option MV} {y0 : Int32}  (h : Q [.inl y0] σ) : Ev S (d + 1) 145 6 [o0, o1, o2, o3] [.inl y0] σ Q := by
  exact e_ireturn q_145 rfl rfl h
theorem g_145_42 {S : Nat × (Nat → Int32)} {d : Nat} {σ : Mem} {Q : MQ1} {x1 : Int32} {o2 : Option MV} {o3 : Option MV}  (h : Ev S (d + 1) 145 44 [some (.inr (some 60)), some (.inl x1), some (.inl 0), o3] [] σ Q) : Ev S (d + 1) 145 42 [some (.inr (some 60)), some (.inl x1), o2, o3] [] σ Q := by
  refine e_push q_145 rfl ?_
  refine e_store (ls' := [some (.inr (some 60)), some (.inl x1), some (.inl 0), o3]) q_145 rfl (Nat.le_of_ble_eq_true rfl) rfl rfl ?_
  exact h
theorem g_145_37 {S : Nat × (Nat → Int32)} {d : Nat} {σ : Mem} {Q : MQ1} {o0 : Option MV} {o1 : Option MV} {o2 : Option MV} {o3 : Option MV} {y0 : Int32}  (h : Q [.inl y0] σ) : Ev S (d + 1) 145 37 [o0, o1, o2, o3] [.inl y0] σ Q := by
  exact e_ireturn q_145 rfl rfl h
theorem g_145_44 {S : Nat × (Nat → Int32)} {d : Nat} {σ : Mem} {Q : MQ1} {x1 : Int32} {x2 : Int32} {o3 : Option MV}  (h : (∃ j1 : Nat, x1 = nI j1 ∧ j1 < 4 ∧ (((σ 64 j1) ≤ x2 → (∃ j2 : Nat, x1 = nI j2 ∧ j2 < 4 ∧ Q [.inl (σ 64 j2)] σ)) ∧ (¬ ((σ 64 j1) ≤ x2) → (∃ j3 : Nat, (6 * x1) + x2 = nI j3 ∧ j3 < 24 ∧ ((0 ≤ (σ 65 j3) → (∃ j4 : Nat, 79 + x2 = nI j4 ∧ j4 < 86 ∧ ((0 ≤ (σ 65 j3) → (∃ j5 : Nat, 73 + x2 = nI j5 ∧ j5 < 86 ∧ Ev S (d + 1) 145 44 [some (.inr (some 60)), some (.inl x1), some (.inl (x2 + 1)), some (.inl (σ 65 j3))] [] (up (up σ 61 j4 0) 61 j5 (σ 65 j3)) Q)) ∧ (¬ (0 ≤ (σ 65 j3)) → (∃ j6 : Nat, 73 + x2 = nI j6 ∧ j6 < 86 ∧ (∃ j7 : Nat, 73 + x2 = nI j7 ∧ j7 < 86 ∧ Ev S (d + 1) 145 44 [some (.inr (some 60)), some (.inl x1), some (.inl (x2 + 1)), some (.inl (σ 65 j3))] [] (up (up σ 61 j4 0) 61 j7 ((up σ 61 j4 0) 61 j6)) Q)))))) ∧ (¬ (0 ≤ (σ 65 j3)) → (∃ j8 : Nat, 79 + x2 = nI j8 ∧ j8 < 86 ∧ ((0 ≤ (σ 65 j3) → (∃ j9 : Nat, 73 + x2 = nI j9 ∧ j9 < 86 ∧ Ev S (d + 1) 145 44 [some (.inr (some 60)), some (.inl x1), some (.inl (x2 + 1)), some (.inl (σ 65 j3))] [] (up (up σ 61 j8 1) 61 j9 (σ 65 j3)) Q)) ∧ (¬ (0 ≤ (σ 65 j3)) → (∃ j10 : Nat, 73 + x2 = nI j10 ∧ j10 < 86 ∧ (∃ j11 : Nat, 73 + x2 = nI j11 ∧ j11 < 86 ∧ Ev S (d + 1) 145 44 [some (.inr (some 60)), some (.inl x1), some (.inl (x2 + 1)), some (.inl (σ 65 j3))] [] (up (up σ 61 j8 1) 61 j11 ((up σ 61 j8 1) 61 j10)) Q)))))))))))) : Ev S (d + 1) 145 44 [some (.inr (some 60)), some (.inl x1), some (.inl x2), o3] [] σ Q := by
  refine e_load q_145 rfl rfl rfl ?_
  refine e_load q_145 rfl rfl rfl ?_
  refine e_getR q_145 rfl rfl rfl ?_
  refine e_load q_145 rfl rfl rfl ?_
  obtain ⟨j1, hjj1, hlj1, h⟩ := h
  refine e_iald q_145 rfl rfl (by decide) hjj1 hlj1 ?_
  refine e_icmp (P := (σ 64 j1) ≤ x2) q_145 rfl m_c3 (fun c => ?_) (fun c => ?_)
  · replace h := h.1 c
    refine e_load q_145 rfl rfl rfl ?_
    refine e_getR q_145 rfl rfl rfl ?_
    refine e_load q_145 rfl rfl rfl ?_
    obtain ⟨j2, hjj2, hlj2, h⟩ := h
    refine e_iald q_145 rfl rfl (by decide) hjj2 hlj2 ?_
    exact e_ireturn q_145 rfl rfl h
  · replace h := h.2 c
    refine e_load q_145 rfl rfl rfl ?_
    refine e_getR q_145 rfl rfl rfl ?_
    refine e_push q_145 rfl ?_
    refine e_load q_145 rfl rfl rfl ?_
    refine e_bin (r := 6 * x1) q_145 rfl rfl ?_
    refine e_load q_145 rfl rfl rfl ?_
    refine e_bin (r := (6 * x1) + x2) q_145 rfl rfl ?_
    obtain ⟨j3, hjj3, hlj3, h⟩ := h
    refine e_iald q_145 rfl rfl (by decide) hjj3 hlj3 ?_
    refine e_store (ls' := [some (.inr (some 60)), some (.inl x1), some (.inl x2), some (.inl (σ 65 j3))]) q_145 rfl (Nat.le_of_ble_eq_true rfl) rfl rfl ?_
    refine e_load q_145 rfl rfl rfl ?_
    refine e_getR q_145 rfl rfl rfl ?_
    refine e_push q_145 rfl ?_
    refine e_load q_145 rfl rfl rfl ?_
    refine e_bin (r := 79 + x2) q_145 rfl rfl ?_
    refine e_load q_145 rfl rfl rfl ?_
    refine e_if (P := 0 ≤ (σ 65 j3)) q_145 rfl m_c3 (fun c => ?_) (fun c => ?_)
    · replace h := h.1 c
      refine e_push q_145 rfl ?_
      obtain ⟨j4, hjj4, hlj4, h⟩ := h
      refine e_iast q_145 rfl rfl (by decide) hjj4 hlj4 ?_
      refine e_load q_145 rfl rfl rfl ?_
      refine e_getR q_145 rfl rfl rfl ?_
      refine e_push q_145 rfl ?_
      refine e_load q_145 rfl rfl rfl ?_
      refine e_bin (r := 73 + x2) q_145 rfl rfl ?_
      refine e_load q_145 rfl rfl rfl ?_
      refine e_if (P := 0 ≤ (σ 65 j3)) q_145 rfl m_c3 (fun c => ?_) (fun c => ?_)
      · replace h := h.1 c
        refine e_load q_145 rfl rfl rfl ?_
        obtain ⟨j5, hjj5, hlj5, h⟩ := h
        refine e_iast q_145 rfl rfl (by decide) hjj5 hlj5 ?_
        refine e_iinc (ls' := [some (.inr (some 60)), some (.inl x1), some (.inl (x2 + 1)), some (.inl (σ 65 j3))]) q_145 rfl rfl rfl ?_
        refine e_goto q_145 rfl ?_
        exact h
      · replace h := h.2 c
        refine e_load q_145 rfl rfl rfl ?_
        refine e_getR q_145 rfl rfl rfl ?_
        refine e_push q_145 rfl ?_
        refine e_load q_145 rfl rfl rfl ?_
        refine e_bin (r := 73 + x2) q_145 rfl rfl ?_
        obtain ⟨j6, hjj6, hlj6, h⟩ := h
        refine e_iald q_145 rfl rfl (by decide) hjj6 hlj6 ?_
        refine e_goto q_145 rfl ?_
        obtain ⟨j7, hjj7, hlj7, h⟩ := h
        refine e_iast q_145 rfl rfl (by decide) hjj7 hlj7 ?_
        refine e_iinc (ls' := [some (.inr (some 60)), some (.inl x1), some (.inl (x2 + 1)), some (.inl (σ 65 j3))]) q_145 rfl rfl rfl ?_
        refine e_goto q_145 rfl ?_
        exact h
    · replace h := h.2 c
      refine e_push q_145 rfl ?_
      refine e_goto q_145 rfl ?_
      obtain ⟨j8, hjj8, hlj8, h⟩ := h
      refine e_iast q_145 rfl rfl (by decide) hjj8 hlj8 ?_
      refine e_load q_145 rfl rfl rfl ?_
      refine e_getR q_145 rfl rfl rfl ?_
      refine e_push q_145 rfl ?_
      refine e_load q_145 rfl rfl rfl ?_
      refine e_bin (r := 73 + x2) q_145 rfl rfl ?_
      refine e_load q_145 rfl rfl rfl ?_
      refine e_if (P := 0 ≤ (σ 65 j3)) q_145 rfl m_c3 (fun c => ?_) (fun c => ?_)
      · replace h := h.1 c
        refine e_load q_145 rfl rfl rfl ?_
        obtain ⟨j9, hjj9, hlj9, h⟩ := h
        refine e_iast q_145 rfl rfl (by decide) hjj9 hlj9 ?_
        refine e_iinc (ls' := [some (.inr (some 60)), some (.inl x1), some (.inl (x2 + 1)), some (.inl (σ 65 j3))]) q_145 rfl rfl rfl ?_
        refine e_goto q_145 rfl ?_
        exact h
      · replace h := h.2 c
        refine e_load q_145 rfl rfl rfl ?_
        refine e_getR q_145 rfl rfl rfl ?_
        refine e_push q_145 rfl ?_
        refine e_load q_145 rfl rfl rfl ?_
        refine e_bin (r := 73 + x2) q_145 rfl rfl ?_
        obtain ⟨j10, hjj10, hlj10, h⟩ := h
        refine e_iald q_145 rfl rfl (by decide) hjj10 hlj10 ?_
        refine e_goto q_145 rfl ?_
        obtain ⟨j11, hjj11, hlj11, h⟩ := h
        refine e_iast q_145 rfl rfl (by decide) hjj11 hlj11 ?_
        refine e_iinc (ls' := [some (.inr (some 60)), some (.inl x1), some (.inl (x2 + 1)), some (.inl (σ 65 j3))]) q_145 rfl rfl rfl ?_
        refine e_goto q_145 rfl ?_
        exact h
theorem q_146 : m_code 146 = mc_146 := rfl
theorem g_146_0 {S : Nat × (Nat → Int32)} {d : Nat} {σ : Mem} {Q : MQ1} {x1 : Int32} {x2 : Int32} {x3 : Int32}  (h : Ec S d 120 [.inr (some 60), .inl x1] σ (fun rv σ' => Ev S (d + 1) 146 3 [some (.inr (some 60)), some (.inl x1), some (.inl x2), some (.inl x3)] (rv ++ []) σ' Q)) : Ev S (d + 1) 146 0 [some (.inr (some 60)), some (.inl x1), some (.inl x2), some (.inl x3)] [] σ Q := by
  refine e_load q_146 rfl rfl rfl ?_
  refine e_load q_146 rfl rfl rfl ?_
  exact e_virt q_146 rfl rfl (Nat.le_of_ble_eq_true rfl) rfl rfl (Nat.le_of_ble_eq_true rfl) rfl h
theorem g_146_3 {S : Nat × (Nat → Int32)} {d : Nat} {σ : Mem} {Q : MQ1} {x1 : Int32} {x2 : Int32} {x3 : Int32} {y0 : Int32}  (h : ((y0 = 0 → Ec S d 118 [.inr (some 60), .inl (-100001)] σ (fun rv σ' => Ev S (d + 1) 146 13 [some (.inr (some 60)), some (.inl x1), some (.inl x2), some (.inl x3)] (rv ++ []) σ' Q)) ∧ (¬ (y0 = 0) → ((x3 = (-1) → Ec S d 124 [.inr (some 60), .inl x1] σ (fun rv σ' => Ev S (d + 1) 146 17 [some (.inr (some 60)), some (.inl x1), some (.inl x2), some (.inl x3)] (rv ++ []) σ' Q)) ∧ (¬ (x3 = (-1)) → Ec S d 121 [.inl x3] σ (fun rv σ' => Ev S (d + 1) 146 9 [some (.inr (some 60)), some (.inl x1), some (.inl x2), some (.inl x3)] (rv ++ []) σ' Q)))))) : Ev S (d + 1) 146 3 [some (.inr (some 60)), some (.inl x1), some (.inl x2), some (.inl x3)] [.inl y0] σ Q := by
  refine e_if (P := y0 = 0) q_146 rfl m_c0 (fun c => ?_) (fun c => ?_)
  · replace h := h.1 c
    refine e_load q_146 rfl rfl rfl ?_
    refine e_push q_146 rfl ?_
    exact e_virt q_146 rfl rfl (Nat.le_of_ble_eq_true rfl) rfl rfl (Nat.le_of_ble_eq_true rfl) rfl h
  · replace h := h.2 c
    refine e_load q_146 rfl rfl rfl ?_
    refine e_push q_146 rfl ?_
    refine e_icmp (P := x3 = (-1)) q_146 rfl m_c0 (fun c => ?_) (fun c => ?_)
    · replace h := h.1 c
      refine e_load q_146 rfl rfl rfl ?_
      refine e_load q_146 rfl rfl rfl ?_
      exact e_virt q_146 rfl rfl (Nat.le_of_ble_eq_true rfl) rfl rfl (Nat.le_of_ble_eq_true rfl) rfl h
    · replace h := h.2 c
      refine e_load q_146 rfl rfl rfl ?_
      exact e_stat q_146 rfl (Nat.le_of_ble_eq_true rfl) rfl rfl (Nat.le_of_ble_eq_true rfl) h
theorem g_146_13 {S : Nat × (Nat → Int32)} {d : Nat} {σ : Mem} {Q : MQ1} {o0 : Option MV} {o1 : Option MV} {o2 : Option MV} {o3 : Option MV} {y0 : Int32}  (h : Q [.inl y0] σ) : Ev S (d + 1) 146 13 [o0, o1, o2, o3] [.inl y0] σ Q := by
  exact e_ireturn q_146 rfl rfl h
theorem g_146_17 {S : Nat × (Nat → Int32)} {d : Nat} {σ : Mem} {Q : MQ1} {x1 : Int32} {x2 : Int32} {x3 : Int32} {y0 : Int32}  (h : ((y0 = 0 → Ec S d 132 [.inr (some 60), .inl x1, .inl x2, .inl x3] σ (fun rv σ' => Ev S (d + 1) 146 27 [some (.inr (some 60)), some (.inl x1), some (.inl x2), some (.inl x3)] (rv ++ []) σ' Q)) ∧ (¬ (y0 = 0) → Ec S d 118 [.inr (some 60), .inl (-100004)] σ (fun rv σ' => Ev S (d + 1) 146 21 [some (.inr (some 60)), some (.inl x1), some (.inl x2), some (.inl x3)] (rv ++ []) σ' Q)))) : Ev S (d + 1) 146 17 [some (.inr (some 60)), some (.inl x1), some (.inl x2), some (.inl x3)] [.inl y0] σ Q := by
  refine e_if (P := y0 = 0) q_146 rfl m_c0 (fun c => ?_) (fun c => ?_)
  · replace h := h.1 c
    refine e_load q_146 rfl rfl rfl ?_
    refine e_load q_146 rfl rfl rfl ?_
    refine e_load q_146 rfl rfl rfl ?_
    refine e_load q_146 rfl rfl rfl ?_
    exact e_virt q_146 rfl rfl (Nat.le_of_ble_eq_true rfl) rfl rfl (Nat.le_of_ble_eq_true rfl) rfl h
  · replace h := h.2 c
    refine e_load q_146 rfl rfl rfl ?_
    refine e_push q_146 rfl ?_
    exact e_virt q_146 rfl rfl (Nat.le_of_ble_eq_true rfl) rfl rfl (Nat.le_of_ble_eq_true rfl) rfl h
theorem g_146_9 {S : Nat × (Nat → Int32)} {d : Nat} {σ : Mem} {Q : MQ1} {x1 : Int32} {x2 : Int32} {x3 : Int32} {y0 : Int32}  (h : (((¬ y0 = 0) → Ec S d 124 [.inr (some 60), .inl x1] σ (fun rv σ' => Ev S (d + 1) 146 17 [some (.inr (some 60)), some (.inl x1), some (.inl x2), some (.inl x3)] (rv ++ []) σ' Q)) ∧ (¬ (¬ y0 = 0) → Ec S d 118 [.inr (some 60), .inl (-100001)] σ (fun rv σ' => Ev S (d + 1) 146 13 [some (.inr (some 60)), some (.inl x1), some (.inl x2), some (.inl x3)] (rv ++ []) σ' Q)))) : Ev S (d + 1) 146 9 [some (.inr (some 60)), some (.inl x1), some (.inl x2), some (.inl x3)] [.inl y0] σ Q := by
  refine e_if (P := ¬ y0 = 0) q_146 rfl m_c1 (fun c => ?_) (fun c => ?_)
  · replace h := h.1 c
    refine e_load q_146 rfl rfl rfl ?_
    refine e_load q_146 rfl rfl rfl ?_
    exact e_virt q_146 rfl rfl (Nat.le_of_ble_eq_true rfl) rfl rfl (Nat.le_of_ble_eq_true rfl) rfl h
  · replace h := h.2 c
    refine e_load q_146 rfl rfl rfl ?_
    refine e_push q_146 rfl ?_
    exact e_virt q_146 rfl rfl (Nat.le_of_ble_eq_true rfl) rfl rfl (Nat.le_of_ble_eq_true rfl) rfl h
theorem g_146_27 {S : Nat × (Nat → Int32)} {d : Nat} {σ : Mem} {Q : MQ1} {o0 : Option MV} {o1 : Option MV} {o2 : Option MV} {o3 : Option MV} {y0 : Int32}  (h : Q [.inl y0] σ) : Ev S (d + 1) 146 27 [o0, o1, o2, o3] [.inl y0] σ Q := by
  exact e_ireturn q_146 rfl rfl h
theorem g_146_21 {S : Nat × (Nat → Int32)} {d : Nat} {σ : Mem} {Q : MQ1} {o0 : Option MV} {o1 : Option MV} {o2 : Option MV} {o3 : Option MV} {y0 : Int32}  (h : Q [.inl y0] σ) : Ev S (d + 1) 146 21 [o0, o1, o2, o3] [.inl y0] σ Q := by
  refine e_goto q_146 rfl ?_
  exact e_ireturn q_146 rfl rfl h
theorem q_147 : m_code 147 = mc_147 := rfl
theorem g_147_0 {S : Nat × (Nat → Int32)} {d : Nat} {σ : Mem} {Q : MQ1} {x1 : Int32} {x2 : Int32}  (h : Ec S d 146 [.inr (some 60), .inl x1, .inl 6, .inl x2] σ (fun rv σ' => Ev S (d + 1) 147 5 [some (.inr (some 60)), some (.inl x1), some (.inl x2)] (rv ++ []) σ' Q)) : Ev S (d + 1) 147 0 [some (.inr (some 60)), some (.inl x1), some (.inl x2)] [] σ Q := by
  refine e_load q_147 rfl rfl rfl ?_
  refine e_load q_147 rfl rfl rfl ?_
  refine e_push q_147 rfl ?_
  refine e_load q_147 rfl rfl rfl ?_
  exact e_virt q_147 rfl rfl (Nat.le_of_ble_eq_true rfl) rfl rfl (Nat.le_of_ble_eq_true rfl) rfl h
theorem g_147_5 {S : Nat × (Nat → Int32)} {d : Nat} {σ : Mem} {Q : MQ1} {o0 : Option MV} {o1 : Option MV} {o2 : Option MV} {y0 : Int32}  (h : Q [.inl y0] σ) : Ev S (d + 1) 147 5 [o0, o1, o2] [.inl y0] σ Q := by
  exact e_ireturn q_147 rfl rfl h
theorem q_148 : m_code 148 = mc_148 := rfl
theorem g_148_0 {S : Nat × (Nat → Int32)} {d : Nat} {σ : Mem} {Q : MQ1} {x1 : Int32} {x2 : Int32}  (h : Ec S d 146 [.inr (some 60), .inl x1, .inl 7, .inl x2] σ (fun rv σ' => Ev S (d + 1) 148 5 [some (.inr (some 60)), some (.inl x1), some (.inl x2)] (rv ++ []) σ' Q)) : Ev S (d + 1) 148 0 [some (.inr (some 60)), some (.inl x1), some (.inl x2)] [] σ Q := by
  refine e_load q_148 rfl rfl rfl ?_
  refine e_load q_148 rfl rfl rfl ?_
  refine e_push q_148 rfl ?_
  refine e_load q_148 rfl rfl rfl ?_
  exact e_virt q_148 rfl rfl (Nat.le_of_ble_eq_true rfl) rfl rfl (Nat.le_of_ble_eq_true rfl) rfl h
theorem g_148_5 {S : Nat × (Nat → Int32)} {d : Nat} {σ : Mem} {Q : MQ1} {o0 : Option MV} {o1 : Option MV} {o2 : Option MV} {y0 : Int32}  (h : Q [.inl y0] σ) : Ev S (d + 1) 148 5 [o0, o1, o2] [.inl y0] σ Q := by
  exact e_ireturn q_148 rfl rfl h
theorem q_149 : m_code 149 = mc_149 := rfl
theorem g_149_0 {S : Nat × (Nat → Int32)} {d : Nat} {σ : Mem} {Q : MQ1} {x1 : Int32}  (h : Ev S (d + 1) 149 4 [some (.inr (some 60)), some (.inl x1), some (.inl 0), some (.inl 0)] [] σ Q) : Ev S (d + 1) 149 0 [some (.inr (some 60)), some (.inl x1), none, none] [] σ Q := by
  refine e_push q_149 rfl ?_
  refine e_store (ls' := [some (.inr (some 60)), some (.inl x1), some (.inl 0), none]) q_149 rfl (Nat.le_of_ble_eq_true rfl) rfl rfl ?_
  refine e_push q_149 rfl ?_
  refine e_store (ls' := [some (.inr (some 60)), some (.inl x1), some (.inl 0), some (.inl 0)]) q_149 rfl (Nat.le_of_ble_eq_true rfl) rfl rfl ?_
  exact h
theorem g_149_4 {S : Nat × (Nat → Int32)} {d : Nat} {σ : Mem} {Q : MQ1} {x1 : Int32} {x2 : Int32} {x3 : Int32}  (h : (((σ 61 0) ≤ x3 → Q [.inl x2] σ) ∧ (¬ ((σ 61 0) ≤ x3) → Ec S d 124 [.inr (some 60), .inl x3] σ (fun rv σ' => Ev S (d + 1) 149 13 [some (.inr (some 60)), some (.inl x1), some (.inl x2), some (.inl x3)] (rv ++ []) σ' Q)))) : Ev S (d + 1) 149 4 [some (.inr (some 60)), some (.inl x1), some (.inl x2), some (.inl x3)] [] σ Q := by
  refine e_load q_149 rfl rfl rfl ?_
  refine e_load q_149 rfl rfl rfl ?_
  refine e_getR q_149 rfl rfl rfl ?_
  refine e_push q_149 rfl ?_
  refine e_iald (j := 0) q_149 rfl rfl (by decide) (by decide +kernel) (by decide) ?_
  refine e_icmp (P := (σ 61 0) ≤ x3) q_149 rfl m_c3 (fun c => ?_) (fun c => ?_)
  · replace h := h.1 c
    refine e_load q_149 rfl rfl rfl ?_
    exact e_ireturn q_149 rfl rfl h
  · replace h := h.2 c
    refine e_load q_149 rfl rfl rfl ?_
    refine e_load q_149 rfl rfl rfl ?_
    exact e_virt q_149 rfl rfl (Nat.le_of_ble_eq_true rfl) rfl rfl (Nat.le_of_ble_eq_true rfl) rfl h
theorem g_149_13 {S : Nat × (Nat → Int32)} {d : Nat} {σ : Mem} {Q : MQ1} {x1 : Int32} {x2 : Int32} {x3 : Int32} {y0 : Int32}  (h : ((y0 = 0 → Ec S d 122 [.inr (some 60), .inl x3, .inl 6] σ (fun rv σ' => Ev S (d + 1) 149 30 [some (.inr (some 60)), some (.inl x1), some (.inl x2), some (.inl x3)] (rv ++ [.inl x2]) σ' Q)) ∧ (¬ (y0 = 0) → Ec S d 125 [.inr (some 60), .inl x1] σ (fun rv σ' => Ev S (d + 1) 149 18 [some (.inr (some 60)), some (.inl x1), some (.inl x2), some (.inl x3)] (rv ++ [.inl x2]) σ' Q)))) : Ev S (d + 1) 149 13 [some (.inr (some 60)), some (.inl x1), some (.inl x2), some (.inl x3)] [.inl y0] σ Q := by
  refine e_if (P := y0 = 0) q_149 rfl m_c0 (fun c => ?_) (fun c => ?_)
  · replace h := h.1 c
    refine e_load q_149 rfl rfl rfl ?_
    refine e_load q_149 rfl rfl rfl ?_
    refine e_load q_149 rfl rfl rfl ?_
    refine e_push q_149 rfl ?_
    exact e_virt q_149 rfl rfl (Nat.le_of_ble_eq_true rfl) rfl rfl (Nat.le_of_ble_eq_true rfl) rfl h
  · replace h := h.2 c
    refine e_load q_149 rfl rfl rfl ?_
    refine e_load q_149 rfl rfl rfl ?_
    refine e_load q_149 rfl rfl rfl ?_
    exact e_virt q_149 rfl rfl (Nat.le_of_ble_eq_true rfl) rfl rfl (Nat.le_of_ble_eq_true rfl) rfl h
theorem g_149_30 {S : Nat × (Nat → Int32)} {d : Nat} {σ : Mem} {Q : MQ1} {x1 : Int32} {o2 : Option MV} {x3 : Int32} {y0 : Int32} {y1 : Int32}  (h : (((¬ y1 = x1) → Ec S d 122 [.inr (some 60), .inl x3, .inl 7] σ (fun rv σ' => Ev S (d + 1) 149 45 [some (.inr (some 60)), some (.inl x1), some (.inl (y0 + 0)), some (.inl x3)] (rv ++ [.inl (y0 + 0)]) σ' Q)) ∧ (¬ (¬ y1 = x1) → Ec S d 122 [.inr (some 60), .inl x3, .inl 1] σ (fun rv σ' => Ev S (d + 1) 149 36 [some (.inr (some 60)), some (.inl x1), o2, some (.inl x3)] (rv ++ [.inl y0]) σ' Q)))) : Ev S (d + 1) 149 30 [some (.inr (some 60)), some (.inl x1), o2, some (.inl x3)] [.inl y1, .inl y0] σ Q := by
  refine e_load q_149 rfl rfl rfl ?_
  refine e_icmp (P := ¬ y1 = x1) q_149 rfl m_c1 (fun c => ?_) (fun c => ?_)
  · replace h := h.1 c
    refine e_push q_149 rfl ?_
    refine e_bin (r := y0 + 0) q_149 rfl rfl ?_
    refine e_store (ls' := [some (.inr (some 60)), some (.inl x1), some (.inl (y0 + 0)), some (.inl x3)]) q_149 rfl (Nat.le_of_ble_eq_true rfl) rfl rfl ?_
    refine e_load q_149 rfl rfl rfl ?_
    refine e_load q_149 rfl rfl rfl ?_
    refine e_load q_149 rfl rfl rfl ?_
    refine e_push q_149 rfl ?_
    exact e_virt q_149 rfl rfl (Nat.le_of_ble_eq_true rfl) rfl rfl (Nat.le_of_ble_eq_true rfl) rfl h
  · replace h := h.2 c
    refine e_load q_149 rfl rfl rfl ?_
    refine e_load q_149 rfl rfl rfl ?_
    refine e_push q_149 rfl ?_
    exact e_virt q_149 rfl rfl (Nat.le_of_ble_eq_true rfl) rfl rfl (Nat.le_of_ble_eq_true rfl) rfl h
theorem g_149_18 {S : Nat × (Nat → Int32)} {d : Nat} {σ : Mem} {Q : MQ1} {x1 : Int32} {o2 : Option MV} {x3 : Int32} {y0 : Int32} {y1 : Int32}  (h : ((y1 = 0 → Ev S (d + 1) 149 4 [some (.inr (some 60)), some (.inl x1), some (.inl (y0 + 1)), some (.inl (x3 + 1))] [] σ Q) ∧ (¬ (y1 = 0) → Ev S (d + 1) 149 4 [some (.inr (some 60)), some (.inl x1), some (.inl (y0 + 0)), some (.inl (x3 + 1))] [] σ Q))) : Ev S (d + 1) 149 18 [some (.inr (some 60)), some (.inl x1), o2, some (.inl x3)] [.inl y1, .inl y0] σ Q := by
  refine e_if (P := y1 = 0) q_149 rfl m_c0 (fun c => ?_) (fun c => ?_)
  · replace h := h.1 c
    refine e_push q_149 rfl ?_
    refine e_bin (r := y0 + 1) q_149 rfl rfl ?_
    refine e_store (ls' := [some (.inr (some 60)), some (.inl x1), some (.inl (y0 + 1)), some (.inl x3)]) q_149 rfl (Nat.le_of_ble_eq_true rfl) rfl rfl ?_
    refine e_goto q_149 rfl ?_
    refine e_iinc (ls' := [some (.inr (some 60)), some (.inl x1), some (.inl (y0 + 1)), some (.inl (x3 + 1))]) q_149 rfl rfl rfl ?_
    refine e_goto q_149 rfl ?_
    exact h
  · replace h := h.2 c
    refine e_push q_149 rfl ?_
    refine e_goto q_149 rfl ?_
    refine e_bin (r := y0 + 0) q_149 rfl rfl ?_
    refine e_store (ls' := [some (.inr (some 60)), some (.inl x1), some (.inl (y0 + 0)), some (.inl x3)]) q_149 rfl (Nat.le_of_ble_eq_true rfl) rfl rfl ?_
    refine e_goto q_149 rfl ?_
    refine e_iinc (ls' := [some (.inr (some 60)), some (.inl x1), some (.inl (y0 + 0)), some (.inl (x3 + 1))]) q_149 rfl rfl rfl ?_
    refine e_goto q_149 rfl ?_
    exact h
theorem g_149_45 {S : Nat × (Nat → Int32)} {d : Nat} {σ : Mem} {Q : MQ1} {x1 : Int32} {o2 : Option MV} {x3 : Int32} {y0 : Int32} {y1 : Int32}  (h : (((¬ y1 = x1) → Ev S (d + 1) 149 4 [some (.inr (some 60)), some (.inl x1), some (.inl (y0 + 0)), some (.inl (x3 + 1))] [] σ Q) ∧ (¬ (¬ y1 = x1) → Ev S (d + 1) 149 4 [some (.inr (some 60)), some (.inl x1), some (.inl (y0 + 1)), some (.inl (x3 + 1))] [] σ Q))) : Ev S (d + 1) 149 45 [some (.inr (some 60)), some (.inl x1), o2, some (.inl x3)] [.inl y1, .inl y0] σ Q := by
  refine e_load q_149 rfl rfl rfl ?_
  refine e_icmp (P := ¬ y1 = x1) q_149 rfl m_c1 (fun c => ?_) (fun c => ?_)
  · replace h := h.1 c
    refine e_push q_149 rfl ?_
    refine e_bin (r := y0 + 0) q_149 rfl rfl ?_
    refine e_store (ls' := [some (.inr (some 60)), some (.inl x1), some (.inl (y0 + 0)), some (.inl x3)]) q_149 rfl (Nat.le_of_ble_eq_true rfl) rfl rfl ?_
    refine e_iinc (ls' := [some (.inr (some 60)), some (.inl x1), some (.inl (y0 + 0)), some (.inl (x3 + 1))]) q_149 rfl rfl rfl ?_
    refine e_goto q_149 rfl ?_
    exact h
  · replace h := h.2 c
    refine e_push q_149 rfl ?_
    refine e_goto q_149 rfl ?_
    refine e_bin (r := y0 + 1) q_149 rfl rfl ?_
    refine e_store (ls' := [some (.inr (some 60)), some (.inl x1), some (.inl (y0 + 1)), some (.inl x3)]) q_149 rfl (Nat.le_of_ble_eq_true rfl) rfl rfl ?_
    refine e_iinc (ls' := [some (.inr (some 60)), some (.inl x1), some (.inl (y0 + 1)), some (.inl (x3 + 1))]) q_149 rfl rfl rfl ?_
    refine e_goto q_149 rfl ?_
    exact h
theorem g_149_36 {S : Nat × (Nat → Int32)} {d : Nat} {σ : Mem} {Q : MQ1} {x1 : Int32} {o2 : Option MV} {x3 : Int32} {y0 : Int32} {y1 : Int32}  (h : Ec S d 122 [.inr (some 60), .inl x3, .inl 7] σ (fun rv σ' => Ev S (d + 1) 149 45 [some (.inr (some 60)), some (.inl x1), some (.inl (y0 + y1)), some (.inl x3)] (rv ++ [.inl (y0 + y1)]) σ' Q)) : Ev S (d + 1) 149 36 [some (.inr (some 60)), some (.inl x1), o2, some (.inl x3)] [.inl y1, .inl y0] σ Q := by
  refine e_goto q_149 rfl ?_
  refine e_bin (r := y0 + y1) q_149 rfl rfl ?_
  refine e_store (ls' := [some (.inr (some 60)), some (.inl x1), some (.inl (y0 + y1)), some (.inl x3)]) q_149 rfl (Nat.le_of_ble_eq_true rfl) rfl rfl ?_
  refine e_load q_149 rfl rfl rfl ?_
  refine e_load q_149 rfl rfl rfl ?_
  refine e_load q_149 rfl rfl rfl ?_
  refine e_push q_149 rfl ?_
  exact e_virt q_149 rfl rfl (Nat.le_of_ble_eq_true rfl) rfl rfl (Nat.le_of_ble_eq_true rfl) rfl h
theorem q_150 : m_code 150 = mc_150 := rfl
theorem g_150_0 {S : Nat × (Nat → Int32)} {d : Nat} {σ : Mem} {Q : MQ1} {x1 : Int32} {x2 : Int32}  (h : Ec S d 122 [.inr (some 60), .inl x2, .inl 6] σ (fun rv σ' => Ev S (d + 1) 150 4 [some (.inr (some 60)), some (.inl x1), some (.inl x2), none, none, none, none, none, none, none] (rv ++ []) σ' Q)) : Ev S (d + 1) 150 0 [some (.inr (some 60)), some (.inl x1), some (.inl x2), none, none, none, none, none, none, none] [] σ Q := by
  refine e_load q_150 rfl rfl rfl ?_
  refine e_load q_150 rfl rfl rfl ?_
  refine e_push q_150 rfl ?_
  exact e_virt q_150 rfl rfl (Nat.le_of_ble_eq_true rfl) rfl rfl (Nat.le_of_ble_eq_true rfl) rfl h
theorem g_150_4 {S : Nat × (Nat → Int32)} {d : Nat} {σ : Mem} {Q : MQ1} {x1 : Int32} {x2 : Int32} {o3 : Option MV} {o4 : Option MV} {o5 : Option MV} {o6 : Option MV} {o7 : Option MV} {o8 : Option MV} {o9 : Option MV} {y0 : Int32}  (h : Ec S d 122 [.inr (some 60), .inl x2, .inl 7] σ (fun rv σ' => Ev S (d + 1) 150 9 [some (.inr (some 60)), some (.inl x1), some (.inl x2), some (.inl y0), o4, o5, o6, o7, o8, o9] (rv ++ []) σ' Q)) : Ev S (d + 1) 150 4 [some (.inr (some 60)), some (.inl x1), some (.inl x2), o3, o4, o5, o6, o7, o8, o9] [.inl y0] σ Q := by
  refine e_store (ls' := [some (.inr (some 60)), some (.inl x1), some (.inl x2), some (.inl y0), o4, o5, o6, o7, o8, o9]) q_150 rfl (Nat.le_of_ble_eq_true rfl) rfl rfl ?_
  refine e_load q_150 rfl rfl rfl ?_
  refine e_load q_150 rfl rfl rfl ?_
  refine e_push q_150 rfl ?_
  exact e_virt q_150 rfl rfl (Nat.le_of_ble_eq_true rfl) rfl rfl (Nat.le_of_ble_eq_true rfl) rfl h
theorem g_150_9 {S : Nat × (Nat → Int32)} {d : Nat} {σ : Mem} {Q : MQ1} {x1 : Int32} {x2 : Int32} {x3 : Int32} {o4 : Option MV} {o5 : Option MV} {o6 : Option MV} {o7 : Option MV} {o8 : Option MV} {o9 : Option MV} {y0 : Int32}  (h : ((x1 = 1 → ((x3 < 0 → Q [.inl 0] σ) ∧ (¬ (x3 < 0) → Q [.inl 1] σ))) ∧ (x1 = 2 → Ec S d 125 [.inr (some 60), .inl x3] σ (fun rv σ' => Ev S (d + 1) 150 21 [some (.inr (some 60)), some (.inl x1), some (.inl x2), some (.inl x3), some (.inl y0), o5, o6, o7, o8, o9] (rv ++ []) σ' Q)) ∧ (x1 = 3 → Ev S (d + 1) 150 30 [some (.inr (some 60)), some (.inl x1), some (.inl x2), some (.inl x3), some (.inl y0), some (.inl 1), some (.inl 0), o7, o8, o9] [] σ Q) ∧ (x1 = 4 → Ec S d 122 [.inr (some 60), .inl x2, .inl 3] σ (fun rv σ' => Ev S (d + 1) 150 73 [some (.inr (some 60)), some (.inl x1), some (.inl x2), some (.inl x3), some (.inl y0), o5, some (.inl (y0 - x3)), o7, o8, o9] (rv ++ []) σ' Q)) ∧ ((∀ j : Nat, j < 4 → ¬ x1 = 1 + nI j) → Ec S d 122 [.inr (some 60), .inl x2, .inl 0] σ (fun rv σ' => Ev S (d + 1) 150 103 [some (.inr (some 60)), some (.inl x1), some (.inl x2), some (.inl x3), some (.inl y0), o5, o6, o7, o8, o9] (rv ++ []) σ' Q)))) : Ev S (d + 1) 150 9 [some (.inr (some 60)), some (.inl x1), some (.inl x2), some (.inl x3), o4, o5, o6, o7, o8, o9] [.inl y0] σ Q := by
  refine e_store (ls' := [some (.inr (some 60)), some (.inl x1), some (.inl x2), some (.inl x3), some (.inl y0), o5, o6, o7, o8, o9]) q_150 rfl (Nat.le_of_ble_eq_true rfl) rfl rfl ?_
  refine e_load q_150 rfl rfl rfl ?_
  refine e_switch q_150 rfl ?_
  rcases m_sw (x := x1) (t := 99) (lo := 1) (ts := [12, 18, 26, 65]) (by decide) (by decide) (by decide) with ⟨j, hj, hl, hx⟩ | ⟨hx, hn⟩
  · match j, hj, hl, hx with
    | 0, hj, hl, hx =>
      rw [show m_swt 99 1 [12, 18, 26, 65] (x1) = 12 from hx]
      replace h := h.1 (hj.trans (by decide +kernel))
      refine e_load q_150 rfl rfl rfl ?_
      refine e_if (P := x3 < 0) q_150 rfl m_c2 (fun c => ?_) (fun c => ?_)
      · replace h := h.1 c
        refine e_push q_150 rfl ?_
        exact e_zreturn q_150 rfl rfl (by decide) h
      · replace h := h.2 c
        refine e_push q_150 rfl ?_
        refine e_goto q_150 rfl ?_
        exact e_zreturn q_150 rfl rfl (by decide) h
    | 1, hj, hl, hx =>
      rw [show m_swt 99 1 [12, 18, 26, 65] (x1) = 18 from hx]
      replace h := h.2.1 (hj.trans (by decide +kernel))
      refine e_load q_150 rfl rfl rfl ?_
      refine e_load q_150 rfl rfl rfl ?_
      exact e_virt q_150 rfl rfl (Nat.le_of_ble_eq_true rfl) rfl rfl (Nat.le_of_ble_eq_true rfl) rfl h
    | 2, hj, hl, hx =>
      rw [show m_swt 99 1 [12, 18, 26, 65] (x1) = 26 from hx]
      replace h := h.2.2.1 (hj.trans (by decide +kernel))
      refine e_push q_150 rfl ?_
      refine e_store (ls' := [some (.inr (some 60)), some (.inl x1), some (.inl x2), some (.inl x3), some (.inl y0), some (.inl 1), o6, o7, o8, o9]) q_150 rfl (Nat.le_of_ble_eq_true rfl) rfl rfl ?_
      refine e_push q_150 rfl ?_
      refine e_store (ls' := [some (.inr (some 60)), some (.inl x1), some (.inl x2), some (.inl x3), some (.inl y0), some (.inl 1), some (.inl 0), o7, o8, o9]) q_150 rfl (Nat.le_of_ble_eq_true rfl) rfl rfl ?_
      exact h
    | 3, hj, hl, hx =>
      rw [show m_swt 99 1 [12, 18, 26, 65] (x1) = 65 from hx]
      replace h := h.2.2.2.1 (hj.trans (by decide +kernel))
      refine e_load q_150 rfl rfl rfl ?_
      refine e_load q_150 rfl rfl rfl ?_
      refine e_bin (r := y0 - x3) q_150 rfl rfl ?_
      refine e_store (ls' := [some (.inr (some 60)), some (.inl x1), some (.inl x2), some (.inl x3), some (.inl y0), o5, some (.inl (y0 - x3)), o7, o8, o9]) q_150 rfl (Nat.le_of_ble_eq_true rfl) rfl rfl ?_
      refine e_load q_150 rfl rfl rfl ?_
      refine e_load q_150 rfl rfl rfl ?_
      refine e_push q_150 rfl ?_
      exact e_virt q_150 rfl rfl (Nat.le_of_ble_eq_true rfl) rfl rfl (Nat.le_of_ble_eq_true rfl) rfl h
    | j + 4, hj, hl, hx => exact absurd hl (show ¬ j + 4 < 4 by omega)
  · rw [hx]
    replace h := h.2.2.2.2 hn
    refine e_load q_150 rfl rfl rfl ?_
    refine e_load q_150 rfl rfl rfl ?_
    refine e_push q_150 rfl ?_
    exact e_virt q_150 rfl rfl (Nat.le_of_ble_eq_true rfl) rfl rfl (Nat.le_of_ble_eq_true rfl) rfl h
theorem g_150_21 {S : Nat × (Nat → Int32)} {d : Nat} {σ : Mem} {Q : MQ1} {o0 : Option MV} {o1 : Option MV} {o2 : Option MV} {o3 : Option MV} {o4 : Option MV} {o5 : Option MV} {o6 : Option MV} {o7 : Option MV} {o8 : Option MV} {o9 : Option MV} {y0 : Int32}  (h : (((¬ y0 = 0) → Q [.inl 0] σ) ∧ (¬ (¬ y0 = 0) → Q [.inl 1] σ))) : Ev S (d + 1) 150 21 [o0, o1, o2, o3, o4, o5, o6, o7, o8, o9] [.inl y0] σ Q := by
  refine e_if (P := ¬ y0 = 0) q_150 rfl m_c1 (fun c => ?_) (fun c => ?_)
  · replace h := h.1 c
    refine e_push q_150 rfl ?_
    exact e_zreturn q_150 rfl rfl (by decide) h
  · replace h := h.2 c
    refine e_push q_150 rfl ?_
    refine e_goto q_150 rfl ?_
    exact e_zreturn q_150 rfl rfl (by decide) h
theorem g_150_30 {S : Nat × (Nat → Int32)} {d : Nat} {σ : Mem} {Q : MQ1} {o1 : Option MV} {x2 : Int32} {x3 : Int32} {o4 : Option MV} {x5 : Int32} {x6 : Int32} {o7 : Option MV} {o8 : Option MV} {o9 : Option MV}  (h : (((σ 61 0) ≤ x6 → ((x5 = 0 ∨ x5 = 1) ∧ Q [.inl x5] σ)) ∧ (¬ ((σ 61 0) ≤ x6) → Ec S d 122 [.inr (some 60), .inl x2, .inl 2] σ (fun rv σ' => Ev S (d + 1) 150 41 [some (.inr (some 60)), o1, some (.inl x2), some (.inl x3), o4, some (.inl x5), some (.inl x6), o7, o8, o9] (rv ++ [.inl x5]) σ' Q)))) : Ev S (d + 1) 150 30 [some (.inr (some 60)), o1, some (.inl x2), some (.inl x3), o4, some (.inl x5), some (.inl x6), o7, o8, o9] [] σ Q := by
  refine e_load q_150 rfl rfl rfl ?_
  refine e_load q_150 rfl rfl rfl ?_
  refine e_getR q_150 rfl rfl rfl ?_
  refine e_push q_150 rfl ?_
  refine e_iald (j := 0) q_150 rfl rfl (by decide) (by decide +kernel) (by decide) ?_
  refine e_icmp (P := (σ 61 0) ≤ x6) q_150 rfl m_c3 (fun c => ?_) (fun c => ?_)
  · replace h := h.1 c
    refine e_load q_150 rfl rfl rfl ?_
    exact e_zreturn q_150 rfl rfl h.1 h.2
  · replace h := h.2 c
    refine e_load q_150 rfl rfl rfl ?_
    refine e_load q_150 rfl rfl rfl ?_
    refine e_load q_150 rfl rfl rfl ?_
    refine e_push q_150 rfl ?_
    exact e_virt q_150 rfl rfl (Nat.le_of_ble_eq_true rfl) rfl rfl (Nat.le_of_ble_eq_true rfl) rfl h
theorem g_150_73 {S : Nat × (Nat → Int32)} {d : Nat} {σ : Mem} {Q : MQ1} {o1 : Option MV} {x2 : Int32} {o3 : Option MV} {x4 : Int32} {o5 : Option MV} {x6 : Int32} {o7 : Option MV} {o8 : Option MV} {o9 : Option MV} {y0 : Int32}  (h : (((¬ y0 = 0) → ((x4 < 0 → Q [.inl 0] σ) ∧ (¬ (x4 < 0) → Ec S d 125 [.inr (some 60), .inl x4] σ (fun rv σ' => Ev S (d + 1) 150 85 [some (.inr (some 60)), o1, some (.inl x2), o3, some (.inl x4), o5, some (.inl x6), o7, o8, o9] (rv ++ []) σ' Q)))) ∧ (¬ (¬ y0 = 0) → ((0 ≤ x4 → Q [.inl 0] σ) ∧ (¬ (0 ≤ x4) → Q [.inl 1] σ))))) : Ev S (d + 1) 150 73 [some (.inr (some 60)), o1, some (.inl x2), o3, some (.inl x4), o5, some (.inl x6), o7, o8, o9] [.inl y0] σ Q := by
  refine e_if (P := ¬ y0 = 0) q_150 rfl m_c1 (fun c => ?_) (fun c => ?_)
  · replace h := h.1 c
    refine e_load q_150 rfl rfl rfl ?_
    refine e_if (P := x4 < 0) q_150 rfl m_c2 (fun c => ?_) (fun c => ?_)
    · replace h := h.1 c
      refine e_push q_150 rfl ?_
      exact e_zreturn q_150 rfl rfl (by decide) h
    · replace h := h.2 c
      refine e_load q_150 rfl rfl rfl ?_
      refine e_load q_150 rfl rfl rfl ?_
      exact e_virt q_150 rfl rfl (Nat.le_of_ble_eq_true rfl) rfl rfl (Nat.le_of_ble_eq_true rfl) rfl h
  · replace h := h.2 c
    refine e_load q_150 rfl rfl rfl ?_
    refine e_if (P := 0 ≤ x4) q_150 rfl m_c3 (fun c => ?_) (fun c => ?_)
    · replace h := h.1 c
      refine e_push q_150 rfl ?_
      refine e_goto q_150 rfl ?_
      exact e_zreturn q_150 rfl rfl (by decide) h
    · replace h := h.2 c
      refine e_push q_150 rfl ?_
      refine e_goto q_150 rfl ?_
      exact e_zreturn q_150 rfl rfl (by decide) h
theorem g_150_103 {S : Nat × (Nat → Int32)} {d : Nat} {σ : Mem} {Q : MQ1} {o1 : Option MV} {x2 : Int32} {x3 : Int32} {x4 : Int32} {o5 : Option MV} {o6 : Option MV} {o7 : Option MV} {o8 : Option MV} {o9 : Option MV} {y0 : Int32}  (h : ((y0 = 1 → Ec S d 122 [.inr (some 60), .inl x2, .inl 0] σ (fun rv σ' => Ev S (d + 1) 150 119 [some (.inr (some 60)), o1, some (.inl x2), some (.inl x3), some (.inl x4), o5, o6, some (.inl 1), o8, o9] (rv ++ []) σ' Q)) ∧ (¬ (y0 = 1) → Ec S d 122 [.inr (some 60), .inl x2, .inl 0] σ (fun rv σ' => Ev S (d + 1) 150 109 [some (.inr (some 60)), o1, some (.inl x2), some (.inl x3), some (.inl x4), o5, o6, o7, o8, o9] (rv ++ []) σ' Q)))) : Ev S (d + 1) 150 103 [some (.inr (some 60)), o1, some (.inl x2), some (.inl x3), some (.inl x4), o5, o6, o7, o8, o9] [.inl y0] σ Q := by
  refine e_push q_150 rfl ?_
  refine e_icmp (P := y0 = 1) q_150 rfl m_c0 (fun c => ?_) (fun c => ?_)
  · replace h := h.1 c
    refine e_push q_150 rfl ?_
    refine e_goto q_150 rfl ?_
    refine e_store (ls' := [some (.inr (some 60)), o1, some (.inl x2), some (.inl x3), some (.inl x4), o5, o6, some (.inl 1), o8, o9]) q_150 rfl (Nat.le_of_ble_eq_true rfl) rfl rfl ?_
    refine e_load q_150 rfl rfl rfl ?_
    refine e_load q_150 rfl rfl rfl ?_
    refine e_push q_150 rfl ?_
    exact e_virt q_150 rfl rfl (Nat.le_of_ble_eq_true rfl) rfl rfl (Nat.le_of_ble_eq_true rfl) rfl h
  · replace h := h.2 c
    refine e_load q_150 rfl rfl rfl ?_
    refine e_load q_150 rfl rfl rfl ?_
    refine e_push q_150 rfl ?_
    exact e_virt q_150 rfl rfl (Nat.le_of_ble_eq_true rfl) rfl rfl (Nat.le_of_ble_eq_true rfl) rfl h
theorem g_150_41 {S : Nat × (Nat → Int32)} {d : Nat} {σ : Mem} {Q : MQ1} {o1 : Option MV} {x2 : Int32} {x3 : Int32} {o4 : Option MV} {o5 : Option MV} {x6 : Int32} {o7 : Option MV} {o8 : Option MV} {o9 : Option MV} {y0 : Int32} {y1 : Int32}  (h : ((((y1 >>> (x6 &&& 31)) &&& 1) = 0 → Ev S (d + 1) 150 30 [some (.inr (some 60)), o1, some (.inl x2), some (.inl x3), o4, some (.inl (y0 &&& 1)), some (.inl (x6 + 1)), o7, o8, o9] [] σ Q) ∧ (¬ (((y1 >>> (x6 &&& 31)) &&& 1) = 0) → Ec S d 124 [.inr (some 60), .inl x6] σ (fun rv σ' => Ev S (d + 1) 150 49 [some (.inr (some 60)), o1, some (.inl x2), some (.inl x3), o4, o5, some (.inl x6), o7, o8, o9] (rv ++ [.inl y0]) σ' Q)))) : Ev S (d + 1) 150 41 [some (.inr (some 60)), o1, some (.inl x2), some (.inl x3), o4, o5, some (.inl x6), o7, o8, o9] [.inl y1, .inl y0] σ Q := by
  refine e_load q_150 rfl rfl rfl ?_
  refine e_bin (r := y1 >>> (x6 &&& 31)) q_150 rfl rfl ?_
  refine e_push q_150 rfl ?_
  refine e_bin (r := (y1 >>> (x6 &&& 31)) &&& 1) q_150 rfl rfl ?_
  refine e_if (P := ((y1 >>> (x6 &&& 31)) &&& 1) = 0) q_150 rfl m_c0 (fun c => ?_) (fun c => ?_)
  · replace h := h.1 c
    refine e_push q_150 rfl ?_
    refine e_goto q_150 rfl ?_
    refine e_bin (r := y0 &&& 1) q_150 rfl rfl ?_
    refine e_store (ls' := [some (.inr (some 60)), o1, some (.inl x2), some (.inl x3), o4, some (.inl (y0 &&& 1)), some (.inl x6), o7, o8, o9]) q_150 rfl (Nat.le_of_ble_eq_true rfl) rfl rfl ?_
    refine e_iinc (ls' := [some (.inr (some 60)), o1, some (.inl x2), some (.inl x3), o4, some (.inl (y0 &&& 1)), some (.inl (x6 + 1)), o7, o8, o9]) q_150 rfl rfl rfl ?_
    refine e_goto q_150 rfl ?_
    exact h
  · replace h := h.2 c
    refine e_load q_150 rfl rfl rfl ?_
    refine e_load q_150 rfl rfl rfl ?_
    exact e_virt q_150 rfl rfl (Nat.le_of_ble_eq_true rfl) rfl rfl (Nat.le_of_ble_eq_true rfl) rfl h
theorem g_150_85 {S : Nat × (Nat → Int32)} {d : Nat} {σ : Mem} {Q : MQ1} {o1 : Option MV} {x2 : Int32} {o3 : Option MV} {o4 : Option MV} {o5 : Option MV} {x6 : Int32} {o7 : Option MV} {o8 : Option MV} {o9 : Option MV} {y0 : Int32}  (h : (((¬ y0 = 0) → Q [.inl 0] σ) ∧ (¬ (¬ y0 = 0) → ((x6 < 1 → Q [.inl 0] σ) ∧ (¬ (x6 < 1) → Ec S d 122 [.inr (some 60), .inl x2, .inl 3] σ (fun rv σ' => Ev S (d + 1) 150 94 [some (.inr (some 60)), o1, some (.inl x2), o3, o4, o5, some (.inl x6), o7, o8, o9] (rv ++ [.inl x6]) σ' Q)))))) : Ev S (d + 1) 150 85 [some (.inr (some 60)), o1, some (.inl x2), o3, o4, o5, some (.inl x6), o7, o8, o9] [.inl y0] σ Q := by
  refine e_if (P := ¬ y0 = 0) q_150 rfl m_c1 (fun c => ?_) (fun c => ?_)
  · replace h := h.1 c
    refine e_push q_150 rfl ?_
    exact e_zreturn q_150 rfl rfl (by decide) h
  · replace h := h.2 c
    refine e_load q_150 rfl rfl rfl ?_
    refine e_push q_150 rfl ?_
    refine e_icmp (P := x6 < 1) q_150 rfl m_c2 (fun c => ?_) (fun c => ?_)
    · replace h := h.1 c
      refine e_push q_150 rfl ?_
      exact e_zreturn q_150 rfl rfl (by decide) h
    · replace h := h.2 c
      refine e_load q_150 rfl rfl rfl ?_
      refine e_load q_150 rfl rfl rfl ?_
      refine e_load q_150 rfl rfl rfl ?_
      refine e_push q_150 rfl ?_
      exact e_virt q_150 rfl rfl (Nat.le_of_ble_eq_true rfl) rfl rfl (Nat.le_of_ble_eq_true rfl) rfl h
theorem g_150_119 {S : Nat × (Nat → Int32)} {d : Nat} {σ : Mem} {Q : MQ1} {o1 : Option MV} {x2 : Int32} {x3 : Int32} {x4 : Int32} {o5 : Option MV} {o6 : Option MV} {x7 : Int32} {o8 : Option MV} {o9 : Option MV} {y0 : Int32}  (h : (((¬ y0 = 3) → ((x7 = 0 → Q [.inl 1] σ) ∧ (¬ (x7 = 0) → (((σ 61 85) ≤ x3 → Q [.inl 0] σ) ∧ (¬ ((σ 61 85) ≤ x3) → (((σ 61 85) ≤ x4 → Q [.inl 0] σ) ∧ (¬ ((σ 61 85) ≤ x4) → Q [.inl 1] σ))))))) ∧ (¬ (¬ y0 = 3) → Ec S d 122 [.inr (some 60), .inl x2, .inl 5] σ (fun rv σ' => Ev S (d + 1) 150 125 [some (.inr (some 60)), o1, some (.inl x2), some (.inl x3), some (.inl x4), o5, o6, some (.inl x7), o8, o9] (rv ++ []) σ' Q)))) : Ev S (d + 1) 150 119 [some (.inr (some 60)), o1, some (.inl x2), some (.inl x3), some (.inl x4), o5, o6, some (.inl x7), o8, o9] [.inl y0] σ Q := by
  refine e_push q_150 rfl ?_
  refine e_icmp (P := ¬ y0 = 3) q_150 rfl m_c1 (fun c => ?_) (fun c => ?_)
  · replace h := h.1 c
    refine e_push q_150 rfl ?_
    refine e_store (ls' := [some (.inr (some 60)), o1, some (.inl x2), some (.inl x3), some (.inl x4), o5, o6, some (.inl x7), some (.inl (-1)), o9]) q_150 rfl (Nat.le_of_ble_eq_true rfl) rfl rfl ?_
    refine e_load q_150 rfl rfl rfl ?_
    refine e_if (P := ((-1) : Int32) < 0) q_150 rfl m_c2 (fun _ => ?_) (fun c => absurd (by decide) c)
    refine e_push q_150 rfl ?_
    refine e_goto q_150 rfl ?_
    refine e_store (ls' := [some (.inr (some 60)), o1, some (.inl x2), some (.inl x3), some (.inl x4), o5, o6, some (.inl x7), some (.inl (-1)), some (.inl 1)]) q_150 rfl (Nat.le_of_ble_eq_true rfl) rfl rfl ?_
    refine e_load q_150 rfl rfl rfl ?_
    refine e_if (P := x7 = 0) q_150 rfl m_c0 (fun c => ?_) (fun c => ?_)
    · replace h := h.1 c
      refine e_load q_150 rfl rfl rfl ?_
      refine e_if (P := (1 : Int32) = 0) q_150 rfl m_c0 (fun c => absurd c (by decide)) (fun _ => ?_)
      refine e_push q_150 rfl ?_
      refine e_goto q_150 rfl ?_
      exact e_zreturn q_150 rfl rfl (by decide) h
    · replace h := h.2 c
      refine e_load q_150 rfl rfl rfl ?_
      refine e_load q_150 rfl rfl rfl ?_
      refine e_getR q_150 rfl rfl rfl ?_
      refine e_push q_150 rfl ?_
      refine e_iald (j := 85) q_150 rfl rfl (by decide) (by decide +kernel) (by decide) ?_
      refine e_icmp (P := (σ 61 85) ≤ x3) q_150 rfl m_c3 (fun c => ?_) (fun c => ?_)
      · replace h := h.1 c
        refine e_push q_150 rfl ?_
        exact e_zreturn q_150 rfl rfl (by decide) h
      · replace h := h.2 c
        refine e_load q_150 rfl rfl rfl ?_
        refine e_load q_150 rfl rfl rfl ?_
        refine e_getR q_150 rfl rfl rfl ?_
        refine e_push q_150 rfl ?_
        refine e_iald (j := 85) q_150 rfl rfl (by decide) (by decide +kernel) (by decide) ?_
        refine e_icmp (P := (σ 61 85) ≤ x4) q_150 rfl m_c3 (fun c => ?_) (fun c => ?_)
        · replace h := h.1 c
          refine e_push q_150 rfl ?_
          exact e_zreturn q_150 rfl rfl (by decide) h
        · replace h := h.2 c
          refine e_load q_150 rfl rfl rfl ?_
          refine e_if (P := (1 : Int32) = 0) q_150 rfl m_c0 (fun c => absurd c (by decide)) (fun _ => ?_)
          refine e_push q_150 rfl ?_
          refine e_goto q_150 rfl ?_
          exact e_zreturn q_150 rfl rfl (by decide) h
  · replace h := h.2 c
    refine e_load q_150 rfl rfl rfl ?_
    refine e_load q_150 rfl rfl rfl ?_
    refine e_push q_150 rfl ?_
    exact e_virt q_150 rfl rfl (Nat.le_of_ble_eq_true rfl) rfl rfl (Nat.le_of_ble_eq_true rfl) rfl h
theorem g_150_109 {S : Nat × (Nat → Int32)} {d : Nat} {σ : Mem} {Q : MQ1} {o1 : Option MV} {x2 : Int32} {x3 : Int32} {x4 : Int32} {o5 : Option MV} {o6 : Option MV} {o7 : Option MV} {o8 : Option MV} {o9 : Option MV} {y0 : Int32}  (h : (((¬ y0 = 3) → Ec S d 122 [.inr (some 60), .inl x2, .inl 0] σ (fun rv σ' => Ev S (d + 1) 150 119 [some (.inr (some 60)), o1, some (.inl x2), some (.inl x3), some (.inl x4), o5, o6, some (.inl 0), o8, o9] (rv ++ []) σ' Q)) ∧ (¬ (¬ y0 = 3) → Ec S d 122 [.inr (some 60), .inl x2, .inl 0] σ (fun rv σ' => Ev S (d + 1) 150 119 [some (.inr (some 60)), o1, some (.inl x2), some (.inl x3), some (.inl x4), o5, o6, some (.inl 1), o8, o9] (rv ++ []) σ' Q)))) : Ev S (d + 1) 150 109 [some (.inr (some 60)), o1, some (.inl x2), some (.inl x3), some (.inl x4), o5, o6, o7, o8, o9] [.inl y0] σ Q := by
  refine e_push q_150 rfl ?_
  refine e_icmp (P := ¬ y0 = 3) q_150 rfl m_c1 (fun c => ?_) (fun c => ?_)
  · replace h := h.1 c
    refine e_push q_150 rfl ?_
    refine e_store (ls' := [some (.inr (some 60)), o1, some (.inl x2), some (.inl x3), some (.inl x4), o5, o6, some (.inl 0), o8, o9]) q_150 rfl (Nat.le_of_ble_eq_true rfl) rfl rfl ?_
    refine e_load q_150 rfl rfl rfl ?_
    refine e_load q_150 rfl rfl rfl ?_
    refine e_push q_150 rfl ?_
    exact e_virt q_150 rfl rfl (Nat.le_of_ble_eq_true rfl) rfl rfl (Nat.le_of_ble_eq_true rfl) rfl h
  · replace h := h.2 c
    refine e_push q_150 rfl ?_
    refine e_goto q_150 rfl ?_
    refine e_store (ls' := [some (.inr (some 60)), o1, some (.inl x2), some (.inl x3), some (.inl x4), o5, o6, some (.inl 1), o8, o9]) q_150 rfl (Nat.le_of_ble_eq_true rfl) rfl rfl ?_
    refine e_load q_150 rfl rfl rfl ?_
    refine e_load q_150 rfl rfl rfl ?_
    refine e_push q_150 rfl ?_
    exact e_virt q_150 rfl rfl (Nat.le_of_ble_eq_true rfl) rfl rfl (Nat.le_of_ble_eq_true rfl) rfl h
theorem g_150_49 {S : Nat × (Nat → Int32)} {d : Nat} {σ : Mem} {Q : MQ1} {o1 : Option MV} {x2 : Int32} {x3 : Int32} {o4 : Option MV} {o5 : Option MV} {x6 : Int32} {o7 : Option MV} {o8 : Option MV} {o9 : Option MV} {y0 : Int32} {y1 : Int32}  (h : (((¬ y1 = 0) → Ev S (d + 1) 150 30 [some (.inr (some 60)), o1, some (.inl x2), some (.inl x3), o4, some (.inl (y0 &&& 1)), some (.inl (x6 + 1)), o7, o8, o9] [] σ Q) ∧ (¬ (¬ y1 = 0) → Ec S d 122 [.inr (some 60), .inl x6, .inl 6] σ (fun rv σ' => Ev S (d + 1) 150 54 [some (.inr (some 60)), o1, some (.inl x2), some (.inl x3), o4, o5, some (.inl x6), o7, o8, o9] (rv ++ [.inl y0]) σ' Q)))) : Ev S (d + 1) 150 49 [some (.inr (some 60)), o1, some (.inl x2), some (.inl x3), o4, o5, some (.inl x6), o7, o8, o9] [.inl y1, .inl y0] σ Q := by
  refine e_if (P := ¬ y1 = 0) q_150 rfl m_c1 (fun c => ?_) (fun c => ?_)
  · replace h := h.1 c
    refine e_push q_150 rfl ?_
    refine e_goto q_150 rfl ?_
    refine e_bin (r := y0 &&& 1) q_150 rfl rfl ?_
    refine e_store (ls' := [some (.inr (some 60)), o1, some (.inl x2), some (.inl x3), o4, some (.inl (y0 &&& 1)), some (.inl x6), o7, o8, o9]) q_150 rfl (Nat.le_of_ble_eq_true rfl) rfl rfl ?_
    refine e_iinc (ls' := [some (.inr (some 60)), o1, some (.inl x2), some (.inl x3), o4, some (.inl (y0 &&& 1)), some (.inl (x6 + 1)), o7, o8, o9]) q_150 rfl rfl rfl ?_
    refine e_goto q_150 rfl ?_
    exact h
  · replace h := h.2 c
    refine e_load q_150 rfl rfl rfl ?_
    refine e_load q_150 rfl rfl rfl ?_
    refine e_push q_150 rfl ?_
    exact e_virt q_150 rfl rfl (Nat.le_of_ble_eq_true rfl) rfl rfl (Nat.le_of_ble_eq_true rfl) rfl h
theorem g_150_94 {S : Nat × (Nat → Int32)} {d : Nat} {σ : Mem} {Q : MQ1} {o0 : Option MV} {o1 : Option MV} {o2 : Option MV} {o3 : Option MV} {o4 : Option MV} {o5 : Option MV} {o6 : Option MV} {o7 : Option MV} {o8 : Option MV} {o9 : Option MV} {y0 : Int32} {y1 : Int32}  (h : ((y1 < y0 → Q [.inl 0] σ) ∧ (¬ (y1 < y0) → Q [.inl 1] σ))) : Ev S (d + 1) 150 94 [o0, o1, o2, o3, o4, o5, o6, o7, o8, o9] [.inl y1, .inl y0] σ Q := by
  refine e_icmp (P := y1 < y0) q_150 rfl m_c4 (fun c => ?_) (fun c => ?_)
  · replace h := h.1 c
    refine e_push q_150 rfl ?_
    exact e_zreturn q_150 rfl rfl (by decide) h
  · replace h := h.2 c
    refine e_push q_150 rfl ?_
    refine e_goto q_150 rfl ?_
    exact e_zreturn q_150 rfl rfl (by decide) h
theorem g_150_125 {S : Nat × (Nat → Int32)} {d : Nat} {σ : Mem} {Q : MQ1} {o1 : Option MV} {o2 : Option MV} {x3 : Int32} {x4 : Int32} {o5 : Option MV} {o6 : Option MV} {x7 : Int32} {o8 : Option MV} {o9 : Option MV} {y0 : Int32}  (h : ((y0 < 0 → ((x7 = 0 → Q [.inl 1] σ) ∧ (¬ (x7 = 0) → (((σ 61 85) ≤ x3 → Q [.inl 0] σ) ∧ (¬ ((σ 61 85) ≤ x3) → (((σ 61 85) ≤ x4 → Q [.inl 0] σ) ∧ (¬ ((σ 61 85) ≤ x4) → Q [.inl 1] σ))))))) ∧ (¬ (y0 < 0) → Ec S d 124 [.inr (some 60), .inl y0] σ (fun rv σ' => Ev S (d + 1) 150 133 [some (.inr (some 60)), o1, o2, some (.inl x3), some (.inl x4), o5, o6, some (.inl x7), some (.inl y0), o9] (rv ++ []) σ' Q)))) : Ev S (d + 1) 150 125 [some (.inr (some 60)), o1, o2, some (.inl x3), some (.inl x4), o5, o6, some (.inl x7), o8, o9] [.inl y0] σ Q := by
  refine e_goto q_150 rfl ?_
  refine e_store (ls' := [some (.inr (some 60)), o1, o2, some (.inl x3), some (.inl x4), o5, o6, some (.inl x7), some (.inl y0), o9]) q_150 rfl (Nat.le_of_ble_eq_true rfl) rfl rfl ?_
  refine e_load q_150 rfl rfl rfl ?_
  refine e_if (P := y0 < 0) q_150 rfl m_c2 (fun c => ?_) (fun c => ?_)
  · replace h := h.1 c
    refine e_push q_150 rfl ?_
    refine e_goto q_150 rfl ?_
    refine e_store (ls' := [some (.inr (some 60)), o1, o2, some (.inl x3), some (.inl x4), o5, o6, some (.inl x7), some (.inl y0), some (.inl 1)]) q_150 rfl (Nat.le_of_ble_eq_true rfl) rfl rfl ?_
    refine e_load q_150 rfl rfl rfl ?_
    refine e_if (P := x7 = 0) q_150 rfl m_c0 (fun c => ?_) (fun c => ?_)
    · replace h := h.1 c
      refine e_load q_150 rfl rfl rfl ?_
      refine e_if (P := (1 : Int32) = 0) q_150 rfl m_c0 (fun c => absurd c (by decide)) (fun _ => ?_)
      refine e_push q_150 rfl ?_
      refine e_goto q_150 rfl ?_
      exact e_zreturn q_150 rfl rfl (by decide) h
    · replace h := h.2 c
      refine e_load q_150 rfl rfl rfl ?_
      refine e_load q_150 rfl rfl rfl ?_
      refine e_getR q_150 rfl rfl rfl ?_
      refine e_push q_150 rfl ?_
      refine e_iald (j := 85) q_150 rfl rfl (by decide) (by decide +kernel) (by decide) ?_
      refine e_icmp (P := (σ 61 85) ≤ x3) q_150 rfl m_c3 (fun c => ?_) (fun c => ?_)
      · replace h := h.1 c
        refine e_push q_150 rfl ?_
        exact e_zreturn q_150 rfl rfl (by decide) h
      · replace h := h.2 c
        refine e_load q_150 rfl rfl rfl ?_
        refine e_load q_150 rfl rfl rfl ?_
        refine e_getR q_150 rfl rfl rfl ?_
        refine e_push q_150 rfl ?_
        refine e_iald (j := 85) q_150 rfl rfl (by decide) (by decide +kernel) (by decide) ?_
        refine e_icmp (P := (σ 61 85) ≤ x4) q_150 rfl m_c3 (fun c => ?_) (fun c => ?_)
        · replace h := h.1 c
          refine e_push q_150 rfl ?_
          exact e_zreturn q_150 rfl rfl (by decide) h
        · replace h := h.2 c
          refine e_load q_150 rfl rfl rfl ?_
          refine e_if (P := (1 : Int32) = 0) q_150 rfl m_c0 (fun c => absurd c (by decide)) (fun _ => ?_)
          refine e_push q_150 rfl ?_
          refine e_goto q_150 rfl ?_
          exact e_zreturn q_150 rfl rfl (by decide) h
  · replace h := h.2 c
    refine e_load q_150 rfl rfl rfl ?_
    refine e_load q_150 rfl rfl rfl ?_
    exact e_virt q_150 rfl rfl (Nat.le_of_ble_eq_true rfl) rfl rfl (Nat.le_of_ble_eq_true rfl) rfl h
theorem g_150_54 {S : Nat × (Nat → Int32)} {d : Nat} {σ : Mem} {Q : MQ1} {o1 : Option MV} {x2 : Int32} {x3 : Int32} {o4 : Option MV} {o5 : Option MV} {x6 : Int32} {o7 : Option MV} {o8 : Option MV} {o9 : Option MV} {y0 : Int32} {y1 : Int32}  (h : ((x3 ≤ y1 → Ev S (d + 1) 150 30 [some (.inr (some 60)), o1, some (.inl x2), some (.inl x3), o4, some (.inl (y0 &&& 0)), some (.inl (x6 + 1)), o7, o8, o9] [] σ Q) ∧ (¬ (x3 ≤ y1) → Ev S (d + 1) 150 30 [some (.inr (some 60)), o1, some (.inl x2), some (.inl x3), o4, some (.inl (y0 &&& 1)), some (.inl (x6 + 1)), o7, o8, o9] [] σ Q))) : Ev S (d + 1) 150 54 [some (.inr (some 60)), o1, some (.inl x2), some (.inl x3), o4, o5, some (.inl x6), o7, o8, o9] [.inl y1, .inl y0] σ Q := by
  refine e_load q_150 rfl rfl rfl ?_
  refine e_icmp (P := x3 ≤ y1) q_150 rfl m_c3 (fun c => ?_) (fun c => ?_)
  · replace h := h.1 c
    refine e_push q_150 rfl ?_
    refine e_bin (r := y0 &&& 0) q_150 rfl rfl ?_
    refine e_store (ls' := [some (.inr (some 60)), o1, some (.inl x2), some (.inl x3), o4, some (.inl (y0 &&& 0)), some (.inl x6), o7, o8, o9]) q_150 rfl (Nat.le_of_ble_eq_true rfl) rfl rfl ?_
    refine e_iinc (ls' := [some (.inr (some 60)), o1, some (.inl x2), some (.inl x3), o4, some (.inl (y0 &&& 0)), some (.inl (x6 + 1)), o7, o8, o9]) q_150 rfl rfl rfl ?_
    refine e_goto q_150 rfl ?_
    exact h
  · replace h := h.2 c
    refine e_push q_150 rfl ?_
    refine e_goto q_150 rfl ?_
    refine e_bin (r := y0 &&& 1) q_150 rfl rfl ?_
    refine e_store (ls' := [some (.inr (some 60)), o1, some (.inl x2), some (.inl x3), o4, some (.inl (y0 &&& 1)), some (.inl x6), o7, o8, o9]) q_150 rfl (Nat.le_of_ble_eq_true rfl) rfl rfl ?_
    refine e_iinc (ls' := [some (.inr (some 60)), o1, some (.inl x2), some (.inl x3), o4, some (.inl (y0 &&& 1)), some (.inl (x6 + 1)), o7, o8, o9]) q_150 rfl rfl rfl ?_
    refine e_goto q_150 rfl ?_
    exact h
theorem g_150_133 {S : Nat × (Nat → Int32)} {d : Nat} {σ : Mem} {Q : MQ1} {o1 : Option MV} {o2 : Option MV} {x3 : Int32} {x4 : Int32} {o5 : Option MV} {o6 : Option MV} {x7 : Int32} {x8 : Int32} {o9 : Option MV} {y0 : Int32}  (h : (((¬ y0 = 0) → ((x7 = 0 → Q [.inl 1] σ) ∧ (¬ (x7 = 0) → (((σ 61 85) ≤ x3 → Q [.inl 0] σ) ∧ (¬ ((σ 61 85) ≤ x3) → (((σ 61 85) ≤ x4 → Q [.inl 0] σ) ∧ (¬ ((σ 61 85) ≤ x4) → Q [.inl 1] σ))))))) ∧ (¬ (¬ y0 = 0) → Ec S d 122 [.inr (some 60), .inl x8, .inl 6] σ (fun rv σ' => Ev S (d + 1) 150 138 [some (.inr (some 60)), o1, o2, some (.inl x3), some (.inl x4), o5, o6, some (.inl x7), some (.inl x8), o9] (rv ++ []) σ' Q)))) : Ev S (d + 1) 150 133 [some (.inr (some 60)), o1, o2, some (.inl x3), some (.inl x4), o5, o6, some (.inl x7), some (.inl x8), o9] [.inl y0] σ Q := by
  refine e_if (P := ¬ y0 = 0) q_150 rfl m_c1 (fun c => ?_) (fun c => ?_)
  · replace h := h.1 c
    refine e_push q_150 rfl ?_
    refine e_goto q_150 rfl ?_
    refine e_store (ls' := [some (.inr (some 60)), o1, o2, some (.inl x3), some (.inl x4), o5, o6, some (.inl x7), some (.inl x8), some (.inl 1)]) q_150 rfl (Nat.le_of_ble_eq_true rfl) rfl rfl ?_
    refine e_load q_150 rfl rfl rfl ?_
    refine e_if (P := x7 = 0) q_150 rfl m_c0 (fun c => ?_) (fun c => ?_)
    · replace h := h.1 c
      refine e_load q_150 rfl rfl rfl ?_
      refine e_if (P := (1 : Int32) = 0) q_150 rfl m_c0 (fun c => absurd c (by decide)) (fun _ => ?_)
      refine e_push q_150 rfl ?_
      refine e_goto q_150 rfl ?_
      exact e_zreturn q_150 rfl rfl (by decide) h
    · replace h := h.2 c
      refine e_load q_150 rfl rfl rfl ?_
      refine e_load q_150 rfl rfl rfl ?_
      refine e_getR q_150 rfl rfl rfl ?_
      refine e_push q_150 rfl ?_
      refine e_iald (j := 85) q_150 rfl rfl (by decide) (by decide +kernel) (by decide) ?_
      refine e_icmp (P := (σ 61 85) ≤ x3) q_150 rfl m_c3 (fun c => ?_) (fun c => ?_)
      · replace h := h.1 c
        refine e_push q_150 rfl ?_
        exact e_zreturn q_150 rfl rfl (by decide) h
      · replace h := h.2 c
        refine e_load q_150 rfl rfl rfl ?_
        refine e_load q_150 rfl rfl rfl ?_
        refine e_getR q_150 rfl rfl rfl ?_
        refine e_push q_150 rfl ?_
        refine e_iald (j := 85) q_150 rfl rfl (by decide) (by decide +kernel) (by decide) ?_
        refine e_icmp (P := (σ 61 85) ≤ x4) q_150 rfl m_c3 (fun c => ?_) (fun c => ?_)
        · replace h := h.1 c
          refine e_push q_150 rfl ?_
          exact e_zreturn q_150 rfl rfl (by decide) h
        · replace h := h.2 c
          refine e_load q_150 rfl rfl rfl ?_
          refine e_if (P := (1 : Int32) = 0) q_150 rfl m_c0 (fun c => absurd c (by decide)) (fun _ => ?_)
          refine e_push q_150 rfl ?_
          refine e_goto q_150 rfl ?_
          exact e_zreturn q_150 rfl rfl (by decide) h
  · replace h := h.2 c
    refine e_load q_150 rfl rfl rfl ?_
    refine e_load q_150 rfl rfl rfl ?_
    refine e_push q_150 rfl ?_
    exact e_virt q_150 rfl rfl (Nat.le_of_ble_eq_true rfl) rfl rfl (Nat.le_of_ble_eq_true rfl) rfl h
theorem g_150_138 {S : Nat × (Nat → Int32)} {d : Nat} {σ : Mem} {Q : MQ1} {o1 : Option MV} {o2 : Option MV} {x3 : Int32} {x4 : Int32} {o5 : Option MV} {o6 : Option MV} {x7 : Int32} {o8 : Option MV} {o9 : Option MV} {y0 : Int32}  (h : (((¬ y0 = x3) → ((x7 = 0 → Q [.inl 0] σ) ∧ (¬ (x7 = 0) → (((σ 61 85) ≤ x3 → Q [.inl 0] σ) ∧ (¬ ((σ 61 85) ≤ x3) → (((σ 61 85) ≤ x4 → Q [.inl 0] σ) ∧ (¬ ((σ 61 85) ≤ x4) → Q [.inl 0] σ))))))) ∧ (¬ (¬ y0 = x3) → ((x7 = 0 → Q [.inl 1] σ) ∧ (¬ (x7 = 0) → (((σ 61 85) ≤ x3 → Q [.inl 0] σ) ∧ (¬ ((σ 61 85) ≤ x3) → (((σ 61 85) ≤ x4 → Q [.inl 0] σ) ∧ (¬ ((σ 61 85) ≤ x4) → Q [.inl 1] σ))))))))) : Ev S (d + 1) 150 138 [some (.inr (some 60)), o1, o2, some (.inl x3), some (.inl x4), o5, o6, some (.inl x7), o8, o9] [.inl y0] σ Q := by
  refine e_load q_150 rfl rfl rfl ?_
  refine e_icmp (P := ¬ y0 = x3) q_150 rfl m_c1 (fun c => ?_) (fun c => ?_)
  · replace h := h.1 c
    refine e_push q_150 rfl ?_
    refine e_store (ls' := [some (.inr (some 60)), o1, o2, some (.inl x3), some (.inl x4), o5, o6, some (.inl x7), o8, some (.inl 0)]) q_150 rfl (Nat.le_of_ble_eq_true rfl) rfl rfl ?_
    refine e_load q_150 rfl rfl rfl ?_
    refine e_if (P := x7 = 0) q_150 rfl m_c0 (fun c => ?_) (fun c => ?_)
    · replace h := h.1 c
      refine e_load q_150 rfl rfl rfl ?_
      refine e_if (P := (0 : Int32) = 0) q_150 rfl m_c0 (fun _ => ?_) (fun c => absurd (by decide) c)
      refine e_push q_150 rfl ?_
      exact e_zreturn q_150 rfl rfl (by decide) h
    · replace h := h.2 c
      refine e_load q_150 rfl rfl rfl ?_
      refine e_load q_150 rfl rfl rfl ?_
      refine e_getR q_150 rfl rfl rfl ?_
      refine e_push q_150 rfl ?_
      refine e_iald (j := 85) q_150 rfl rfl (by decide) (by decide +kernel) (by decide) ?_
      refine e_icmp (P := (σ 61 85) ≤ x3) q_150 rfl m_c3 (fun c => ?_) (fun c => ?_)
      · replace h := h.1 c
        refine e_push q_150 rfl ?_
        exact e_zreturn q_150 rfl rfl (by decide) h
      · replace h := h.2 c
        refine e_load q_150 rfl rfl rfl ?_
        refine e_load q_150 rfl rfl rfl ?_
        refine e_getR q_150 rfl rfl rfl ?_
        refine e_push q_150 rfl ?_
        refine e_iald (j := 85) q_150 rfl rfl (by decide) (by decide +kernel) (by decide) ?_
        refine e_icmp (P := (σ 61 85) ≤ x4) q_150 rfl m_c3 (fun c => ?_) (fun c => ?_)
        · replace h := h.1 c
          refine e_push q_150 rfl ?_
          exact e_zreturn q_150 rfl rfl (by decide) h
        · replace h := h.2 c
          refine e_load q_150 rfl rfl rfl ?_
          refine e_if (P := (0 : Int32) = 0) q_150 rfl m_c0 (fun _ => ?_) (fun c => absurd (by decide) c)
          refine e_push q_150 rfl ?_
          exact e_zreturn q_150 rfl rfl (by decide) h
  · replace h := h.2 c
    refine e_push q_150 rfl ?_
    refine e_goto q_150 rfl ?_
    refine e_store (ls' := [some (.inr (some 60)), o1, o2, some (.inl x3), some (.inl x4), o5, o6, some (.inl x7), o8, some (.inl 1)]) q_150 rfl (Nat.le_of_ble_eq_true rfl) rfl rfl ?_
    refine e_load q_150 rfl rfl rfl ?_
    refine e_if (P := x7 = 0) q_150 rfl m_c0 (fun c => ?_) (fun c => ?_)
    · replace h := h.1 c
      refine e_load q_150 rfl rfl rfl ?_
      refine e_if (P := (1 : Int32) = 0) q_150 rfl m_c0 (fun c => absurd c (by decide)) (fun _ => ?_)
      refine e_push q_150 rfl ?_
      refine e_goto q_150 rfl ?_
      exact e_zreturn q_150 rfl rfl (by decide) h
    · replace h := h.2 c
      refine e_load q_150 rfl rfl rfl ?_
      refine e_load q_150 rfl rfl rfl ?_
      refine e_getR q_150 rfl rfl rfl ?_
      refine e_push q_150 rfl ?_
      refine e_iald (j := 85) q_150 rfl rfl (by decide) (by decide +kernel) (by decide) ?_
      refine e_icmp (P := (σ 61 85) ≤ x3) q_150 rfl m_c3 (fun c => ?_) (fun c => ?_)
      · replace h := h.1 c
        refine e_push q_150 rfl ?_
        exact e_zreturn q_150 rfl rfl (by decide) h
      · replace h := h.2 c
        refine e_load q_150 rfl rfl rfl ?_
        refine e_load q_150 rfl rfl rfl ?_
        refine e_getR q_150 rfl rfl rfl ?_
        refine e_push q_150 rfl ?_
        refine e_iald (j := 85) q_150 rfl rfl (by decide) (by decide +kernel) (by decide) ?_
        refine e_icmp (P := (σ 61 85) ≤ x4) q_150 rfl m_c3 (fun c => ?_) (fun c => ?_)
        · replace h := h.1 c
          refine e_push q_150 rfl ?_
          exact e_zreturn q_150 rfl rfl (by decide) h
        · replace h := h.2 c
          refine e_load q_150 rfl rfl rfl ?_
          refine e_if (P := (1 : Int32) = 0) q_150 rfl m_c0 (fun c => absurd c (by decide)) (fun _ => ?_)
          refine e_push q_150 rfl ?_
          refine e_goto q_150 rfl ?_
          exact e_zreturn q_150 rfl rfl (by decide) h
theorem q_151 : m_code 151 = mc_151 := rfl
theorem g_151_0 {S : Nat × (Nat → Int32)} {d : Nat} {σ : Mem} {Q : MQ1}   (h : Ev S (d + 1) 151 2 [some (.inr (some 60)), some (.inl 1), none] [] σ Q) : Ev S (d + 1) 151 0 [some (.inr (some 60)), none, none] [] σ Q := by
  refine e_push q_151 rfl ?_
  refine e_store (ls' := [some (.inr (some 60)), some (.inl 1), none]) q_151 rfl (Nat.le_of_ble_eq_true rfl) rfl rfl ?_
  exact h
theorem g_151_2 {S : Nat × (Nat → Int32)} {d : Nat} {σ : Mem} {Q : MQ1} {x1 : Int32} {o2 : Option MV}  (h : ((5 < x1 → Ev S (d + 1) 151 34 [some (.inr (some 60)), some (.inl 0), o2] [] σ Q) ∧ (¬ (5 < x1) → Ev S (d + 1) 151 7 [some (.inr (some 60)), some (.inl x1), some (.inl 0)] [] σ Q))) : Ev S (d + 1) 151 2 [some (.inr (some 60)), some (.inl x1), o2] [] σ Q := by
  refine e_load q_151 rfl rfl rfl ?_
  refine e_push q_151 rfl ?_
  refine e_icmp (P := 5 < x1) q_151 rfl m_c4 (fun c => ?_) (fun c => ?_)
  · replace h := h.1 c
    refine e_push q_151 rfl ?_
    refine e_store (ls' := [some (.inr (some 60)), some (.inl 0), o2]) q_151 rfl (Nat.le_of_ble_eq_true rfl) rfl rfl ?_
    exact h
  · replace h := h.2 c
    refine e_push q_151 rfl ?_
    refine e_store (ls' := [some (.inr (some 60)), some (.inl x1), some (.inl 0)]) q_151 rfl (Nat.le_of_ble_eq_true rfl) rfl rfl ?_
    exact h
theorem g_151_34 {S : Nat × (Nat → Int32)} {d : Nat} {σ : Mem} {Q : MQ1} {x1 : Int32} {o2 : Option MV}  (h : ((6 ≤ x1 → Ev S (d + 1) 151 53 [some (.inr (some 60)), some (.inl 0), o2] [] σ Q) ∧ (¬ (6 ≤ x1) → Ec S d 125 [.inr (some 60), .inl x1] σ (fun rv σ' => Ev S (d + 1) 151 40 [some (.inr (some 60)), some (.inl x1), o2] (rv ++ []) σ' Q)))) : Ev S (d + 1) 151 34 [some (.inr (some 60)), some (.inl x1), o2] [] σ Q := by
  refine e_load q_151 rfl rfl rfl ?_
  refine e_push q_151 rfl ?_
  refine e_icmp (P := 6 ≤ x1) q_151 rfl m_c3 (fun c => ?_) (fun c => ?_)
  · replace h := h.1 c
    refine e_push q_151 rfl ?_
    refine e_store (ls' := [some (.inr (some 60)), some (.inl 0), o2]) q_151 rfl (Nat.le_of_ble_eq_true rfl) rfl rfl ?_
    exact h
  · replace h := h.2 c
    refine e_load q_151 rfl rfl rfl ?_
    refine e_load q_151 rfl rfl rfl ?_
    exact e_virt q_151 rfl rfl (Nat.le_of_ble_eq_true rfl) rfl rfl (Nat.le_of_ble_eq_true rfl) rfl h
theorem g_151_7 {S : Nat × (Nat → Int32)} {d : Nat} {σ : Mem} {Q : MQ1} {x1 : Int32} {x2 : Int32}  (h : (((σ 61 0) ≤ x2 → Ev S (d + 1) 151 2 [some (.inr (some 60)), some (.inl (x1 + 1)), some (.inl x2)] [] σ Q) ∧ (¬ ((σ 61 0) ≤ x2) → Ec S d 124 [.inr (some 60), .inl x2] σ (fun rv σ' => Ev S (d + 1) 151 16 [some (.inr (some 60)), some (.inl x1), some (.inl x2)] (rv ++ []) σ' Q)))) : Ev S (d + 1) 151 7 [some (.inr (some 60)), some (.inl x1), some (.inl x2)] [] σ Q := by
  refine e_load q_151 rfl rfl rfl ?_
  refine e_load q_151 rfl rfl rfl ?_
  refine e_getR q_151 rfl rfl rfl ?_
  refine e_push q_151 rfl ?_
  refine e_iald (j := 0) q_151 rfl rfl (by decide) (by decide +kernel) (by decide) ?_
  refine e_icmp (P := (σ 61 0) ≤ x2) q_151 rfl m_c3 (fun c => ?_) (fun c => ?_)
  · replace h := h.1 c
    refine e_iinc (ls' := [some (.inr (some 60)), some (.inl (x1 + 1)), some (.inl x2)]) q_151 rfl rfl rfl ?_
    refine e_goto q_151 rfl ?_
    exact h
  · replace h := h.2 c
    refine e_load q_151 rfl rfl rfl ?_
    refine e_load q_151 rfl rfl rfl ?_
    exact e_virt q_151 rfl rfl (Nat.le_of_ble_eq_true rfl) rfl rfl (Nat.le_of_ble_eq_true rfl) rfl h
theorem g_151_53 {S : Nat × (Nat → Int32)} {d : Nat} {σ : Mem} {Q : MQ1} {x1 : Int32} {o2 : Option MV}  (h : ((6 ≤ x1 → Q [.inl 0] σ) ∧ (¬ (6 ≤ x1) → Ec S d 149 [.inr (some 60), .inl x1] σ (fun rv σ' => Ev S (d + 1) 151 59 [some (.inr (some 60)), some (.inl x1), o2] (rv ++ []) σ' Q)))) : Ev S (d + 1) 151 53 [some (.inr (some 60)), some (.inl x1), o2] [] σ Q := by
  refine e_load q_151 rfl rfl rfl ?_
  refine e_push q_151 rfl ?_
  refine e_icmp (P := 6 ≤ x1) q_151 rfl m_c3 (fun c => ?_) (fun c => ?_)
  · replace h := h.1 c
    refine e_push q_151 rfl ?_
    exact e_ireturn q_151 rfl rfl h
  · replace h := h.2 c
    refine e_load q_151 rfl rfl rfl ?_
    refine e_load q_151 rfl rfl rfl ?_
    exact e_virt q_151 rfl rfl (Nat.le_of_ble_eq_true rfl) rfl rfl (Nat.le_of_ble_eq_true rfl) rfl h
theorem g_151_40 {S : Nat × (Nat → Int32)} {d : Nat} {σ : Mem} {Q : MQ1} {x1 : Int32} {o2 : Option MV} {y0 : Int32}  (h : ((y0 = 0 → Ev S (d + 1) 151 34 [some (.inr (some 60)), some (.inl (x1 + 1)), o2] [] σ Q) ∧ (¬ (y0 = 0) → Ec S d 149 [.inr (some 60), .inl x1] σ (fun rv σ' => Ev S (d + 1) 151 44 [some (.inr (some 60)), some (.inl x1), o2] (rv ++ []) σ' Q)))) : Ev S (d + 1) 151 40 [some (.inr (some 60)), some (.inl x1), o2] [.inl y0] σ Q := by
  refine e_if (P := y0 = 0) q_151 rfl m_c0 (fun c => ?_) (fun c => ?_)
  · replace h := h.1 c
    refine e_iinc (ls' := [some (.inr (some 60)), some (.inl (x1 + 1)), o2]) q_151 rfl rfl rfl ?_
    refine e_goto q_151 rfl ?_
    exact h
  · replace h := h.2 c
    refine e_load q_151 rfl rfl rfl ?_
    refine e_load q_151 rfl rfl rfl ?_
    exact e_virt q_151 rfl rfl (Nat.le_of_ble_eq_true rfl) rfl rfl (Nat.le_of_ble_eq_true rfl) rfl h
theorem g_151_16 {S : Nat × (Nat → Int32)} {d : Nat} {σ : Mem} {Q : MQ1} {x1 : Int32} {x2 : Int32} {y0 : Int32}  (h : (((¬ y0 = 0) → Ev S (d + 1) 151 7 [some (.inr (some 60)), some (.inl x1), some (.inl (x2 + 1))] [] σ Q) ∧ (¬ (¬ y0 = 0) → Ec S d 150 [.inr (some 60), .inl x1, .inl x2] σ (fun rv σ' => Ev S (d + 1) 151 21 [some (.inr (some 60)), some (.inl x1), some (.inl x2)] (rv ++ []) σ' Q)))) : Ev S (d + 1) 151 16 [some (.inr (some 60)), some (.inl x1), some (.inl x2)] [.inl y0] σ Q := by
  refine e_if (P := ¬ y0 = 0) q_151 rfl m_c1 (fun c => ?_) (fun c => ?_)
  · replace h := h.1 c
    refine e_iinc (ls' := [some (.inr (some 60)), some (.inl x1), some (.inl (x2 + 1))]) q_151 rfl rfl rfl ?_
    refine e_goto q_151 rfl ?_
    exact h
  · replace h := h.2 c
    refine e_load q_151 rfl rfl rfl ?_
    refine e_load q_151 rfl rfl rfl ?_
    refine e_load q_151 rfl rfl rfl ?_
    exact e_virt q_151 rfl rfl (Nat.le_of_ble_eq_true rfl) rfl rfl (Nat.le_of_ble_eq_true rfl) rfl h
theorem g_151_59 {S : Nat × (Nat → Int32)} {d : Nat} {σ : Mem} {Q : MQ1} {x1 : Int32} {o2 : Option MV} {y0 : Int32}  (h : (∃ j1 : Nat, 73 + x1 = nI j1 ∧ j1 < 86 ∧ ((y0 ≤ (σ 61 j1) → Ev S (d + 1) 151 53 [some (.inr (some 60)), some (.inl (x1 + 1)), o2] [] σ Q) ∧ (¬ (y0 ≤ (σ 61 j1)) → Q [.inl (700 + x1)] σ)))) : Ev S (d + 1) 151 59 [some (.inr (some 60)), some (.inl x1), o2] [.inl y0] σ Q := by
  refine e_load q_151 rfl rfl rfl ?_
  refine e_getR q_151 rfl rfl rfl ?_
  refine e_push q_151 rfl ?_
  refine e_load q_151 rfl rfl rfl ?_
  refine e_bin (r := 73 + x1) q_151 rfl rfl ?_
  obtain ⟨j1, hjj1, hlj1, h⟩ := h
  refine e_iald q_151 rfl rfl (by decide) hjj1 hlj1 ?_
  refine e_icmp (P := y0 ≤ (σ 61 j1)) q_151 rfl m_c5 (fun c => ?_) (fun c => ?_)
  · replace h := h.1 c
    refine e_iinc (ls' := [some (.inr (some 60)), some (.inl (x1 + 1)), o2]) q_151 rfl rfl rfl ?_
    refine e_goto q_151 rfl ?_
    exact h
  · replace h := h.2 c
    refine e_push q_151 rfl ?_
    refine e_load q_151 rfl rfl rfl ?_
    refine e_bin (r := 700 + x1) q_151 rfl rfl ?_
    exact e_ireturn q_151 rfl rfl h
theorem g_151_44 {S : Nat × (Nat → Int32)} {d : Nat} {σ : Mem} {Q : MQ1} {x1 : Int32} {o2 : Option MV} {y0 : Int32}  (h : ((y0 ≤ 0 → Ev S (d + 1) 151 34 [some (.inr (some 60)), some (.inl (x1 + 1)), o2] [] σ Q) ∧ (¬ (y0 ≤ 0) → Q [.inl (600 + x1)] σ))) : Ev S (d + 1) 151 44 [some (.inr (some 60)), some (.inl x1), o2] [.inl y0] σ Q := by
  refine e_if (P := y0 ≤ 0) q_151 rfl m_c5 (fun c => ?_) (fun c => ?_)
  · replace h := h.1 c
    refine e_iinc (ls' := [some (.inr (some 60)), some (.inl (x1 + 1)), o2]) q_151 rfl rfl rfl ?_
    refine e_goto q_151 rfl ?_
    exact h
  · replace h := h.2 c
    refine e_push q_151 rfl ?_
    refine e_load q_151 rfl rfl rfl ?_
    refine e_bin (r := 600 + x1) q_151 rfl rfl ?_
    exact e_ireturn q_151 rfl rfl h
theorem g_151_21 {S : Nat × (Nat → Int32)} {d : Nat} {σ : Mem} {Q : MQ1} {x1 : Int32} {x2 : Int32} {y0 : Int32}  (h : (((¬ y0 = 0) → Ev S (d + 1) 151 7 [some (.inr (some 60)), some (.inl x1), some (.inl (x2 + 1))] [] σ Q) ∧ (¬ (¬ y0 = 0) → Q [.inl ((100 * x1) + x2)] σ))) : Ev S (d + 1) 151 21 [some (.inr (some 60)), some (.inl x1), some (.inl x2)] [.inl y0] σ Q := by
  refine e_if (P := ¬ y0 = 0) q_151 rfl m_c1 (fun c => ?_) (fun c => ?_)
  · replace h := h.1 c
    refine e_iinc (ls' := [some (.inr (some 60)), some (.inl x1), some (.inl (x2 + 1))]) q_151 rfl rfl rfl ?_
    refine e_goto q_151 rfl ?_
    exact h
  · replace h := h.2 c
    refine e_push q_151 rfl ?_
    refine e_load q_151 rfl rfl rfl ?_
    refine e_bin (r := 100 * x1) q_151 rfl rfl ?_
    refine e_load q_151 rfl rfl rfl ?_
    refine e_bin (r := (100 * x1) + x2) q_151 rfl rfl ?_
    exact e_ireturn q_151 rfl rfl h
theorem q_152 : m_code 152 = mc_152 := rfl
theorem g_152_0 {S : Nat × (Nat → Int32)} {d : Nat} {σ : Mem} {Q : MQ1}   (h : Ec S d 151 [.inr (some 60)] σ (fun rv σ' => Ev S (d + 1) 152 2 [some (.inr (some 60))] (rv ++ []) σ' Q)) : Ev S (d + 1) 152 0 [some (.inr (some 60))] [] σ Q := by
  refine e_load q_152 rfl rfl rfl ?_
  exact e_virt q_152 rfl rfl (Nat.le_of_ble_eq_true rfl) rfl rfl (Nat.le_of_ble_eq_true rfl) rfl h
theorem g_152_2 {S : Nat × (Nat → Int32)} {d : Nat} {σ : Mem} {Q : MQ1} {o0 : Option MV} {y0 : Int32}  (h : Q [.inl y0] σ) : Ev S (d + 1) 152 2 [o0] [.inl y0] σ Q := by
  exact e_ireturn q_152 rfl rfl h
theorem q_153 : m_code 153 = mc_153 := rfl
theorem g_153_0 {S : Nat × (Nat → Int32)} {d : Nat} {σ : Mem} {Q : MQ1} {x1 : Int32}  (h : Ec S d 121 [.inl x1] σ (fun rv σ' => Ev S (d + 1) 153 2 [some (.inr (some 60)), some (.inl x1)] (rv ++ []) σ' Q)) : Ev S (d + 1) 153 0 [some (.inr (some 60)), some (.inl x1)] [] σ Q := by
  refine e_load q_153 rfl rfl rfl ?_
  exact e_stat q_153 rfl (Nat.le_of_ble_eq_true rfl) rfl rfl (Nat.le_of_ble_eq_true rfl) h
theorem g_153_2 {S : Nat × (Nat → Int32)} {d : Nat} {σ : Mem} {Q : MQ1} {x1 : Int32} {y0 : Int32}  (h : ((y0 = 0 → Ec S d 118 [.inr (some 60), .inl (-100001)] σ (fun rv σ' => Ev S (d + 1) 153 10 [some (.inr (some 60)), some (.inl x1)] (rv ++ []) σ' Q)) ∧ (¬ (y0 = 0) → Ec S d 149 [.inr (some 60), .inl x1] σ (fun rv σ' => Ev S (d + 1) 153 6 [some (.inr (some 60)), some (.inl x1)] (rv ++ []) σ' Q)))) : Ev S (d + 1) 153 2 [some (.inr (some 60)), some (.inl x1)] [.inl y0] σ Q := by
  refine e_if (P := y0 = 0) q_153 rfl m_c0 (fun c => ?_) (fun c => ?_)
  · replace h := h.1 c
    refine e_load q_153 rfl rfl rfl ?_
    refine e_push q_153 rfl ?_
    exact e_virt q_153 rfl rfl (Nat.le_of_ble_eq_true rfl) rfl rfl (Nat.le_of_ble_eq_true rfl) rfl h
  · replace h := h.2 c
    refine e_load q_153 rfl rfl rfl ?_
    refine e_load q_153 rfl rfl rfl ?_
    exact e_virt q_153 rfl rfl (Nat.le_of_ble_eq_true rfl) rfl rfl (Nat.le_of_ble_eq_true rfl) rfl h
theorem g_153_10 {S : Nat × (Nat → Int32)} {d : Nat} {σ : Mem} {Q : MQ1} {o0 : Option MV} {o1 : Option MV} {y0 : Int32}  (h : Q [.inl y0] σ) : Ev S (d + 1) 153 10 [o0, o1] [.inl y0] σ Q := by
  exact e_ireturn q_153 rfl rfl h
theorem g_153_6 {S : Nat × (Nat → Int32)} {d : Nat} {σ : Mem} {Q : MQ1} {o0 : Option MV} {o1 : Option MV} {y0 : Int32}  (h : Q [.inl y0] σ) : Ev S (d + 1) 153 6 [o0, o1] [.inl y0] σ Q := by
  refine e_goto q_153 rfl ?_
  exact e_ireturn q_153 rfl rfl h
theorem q_154 : m_code 154 = mc_154 := rfl
theorem g_154_0 {S : Nat × (Nat → Int32)} {d : Nat} {σ : Mem} {Q : MQ1}   (h : Ev S (d + 1) 154 4 [some (.inr (some 60)), some (.inl 0), some (.inl 0)] [] σ Q) : Ev S (d + 1) 154 0 [some (.inr (some 60)), none, none] [] σ Q := by
  refine e_push q_154 rfl ?_
  refine e_store (ls' := [some (.inr (some 60)), some (.inl 0), none]) q_154 rfl (Nat.le_of_ble_eq_true rfl) rfl rfl ?_
  refine e_push q_154 rfl ?_
  refine e_store (ls' := [some (.inr (some 60)), some (.inl 0), some (.inl 0)]) q_154 rfl (Nat.le_of_ble_eq_true rfl) rfl rfl ?_
  exact h
theorem g_154_4 {S : Nat × (Nat → Int32)} {d : Nat} {σ : Mem} {Q : MQ1} {x1 : Int32} {x2 : Int32}  (h : ((6 ≤ x2 → Q [.inl x1] σ) ∧ (¬ (6 ≤ x2) → Ec S d 149 [.inr (some 60), .inl x2] σ (fun rv σ' => Ev S (d + 1) 154 11 [some (.inr (some 60)), some (.inl x1), some (.inl x2)] (rv ++ [.inl x1]) σ' Q)))) : Ev S (d + 1) 154 4 [some (.inr (some 60)), some (.inl x1), some (.inl x2)] [] σ Q := by
  refine e_load q_154 rfl rfl rfl ?_
  refine e_push q_154 rfl ?_
  refine e_icmp (P := 6 ≤ x2) q_154 rfl m_c3 (fun c => ?_) (fun c => ?_)
  · replace h := h.1 c
    refine e_load q_154 rfl rfl rfl ?_
    exact e_ireturn q_154 rfl rfl h
  · replace h := h.2 c
    refine e_load q_154 rfl rfl rfl ?_
    refine e_load q_154 rfl rfl rfl ?_
    refine e_load q_154 rfl rfl rfl ?_
    exact e_virt q_154 rfl rfl (Nat.le_of_ble_eq_true rfl) rfl rfl (Nat.le_of_ble_eq_true rfl) rfl h
theorem g_154_11 {S : Nat × (Nat → Int32)} {d : Nat} {σ : Mem} {Q : MQ1} {o1 : Option MV} {x2 : Int32} {y0 : Int32} {y1 : Int32}  (h : Ec S d 149 [.inr (some 60), .inl x2] σ (fun rv σ' => Ev S (d + 1) 154 14 [some (.inr (some 60)), o1, some (.inl x2)] (rv ++ [.inl y1, .inl y0]) σ' Q)) : Ev S (d + 1) 154 11 [some (.inr (some 60)), o1, some (.inl x2)] [.inl y1, .inl y0] σ Q := by
  refine e_load q_154 rfl rfl rfl ?_
  refine e_load q_154 rfl rfl rfl ?_
  exact e_virt q_154 rfl rfl (Nat.le_of_ble_eq_true rfl) rfl rfl (Nat.le_of_ble_eq_true rfl) rfl h
theorem g_154_14 {S : Nat × (Nat → Int32)} {d : Nat} {σ : Mem} {Q : MQ1} {o1 : Option MV} {x2 : Int32} {y0 : Int32} {y1 : Int32} {y2 : Int32}  (h : Ev S (d + 1) 154 4 [some (.inr (some 60)), some (.inl (y0 + (y1 * y2))), some (.inl (x2 + 1))] [] σ Q) : Ev S (d + 1) 154 14 [some (.inr (some 60)), o1, some (.inl x2)] [.inl y2, .inl y1, .inl y0] σ Q := by
  refine e_bin (r := y1 * y2) q_154 rfl rfl ?_
  refine e_bin (r := y0 + (y1 * y2)) q_154 rfl rfl ?_
  refine e_store (ls' := [some (.inr (some 60)), some (.inl (y0 + (y1 * y2))), some (.inl x2)]) q_154 rfl (Nat.le_of_ble_eq_true rfl) rfl rfl ?_
  refine e_iinc (ls' := [some (.inr (some 60)), some (.inl (y0 + (y1 * y2))), some (.inl (x2 + 1))]) q_154 rfl rfl rfl ?_
  refine e_goto q_154 rfl ?_
  exact h
theorem q_155 : m_code 155 = mc_155 := rfl
theorem g_155_0 {S : Nat × (Nat → Int32)} {d : Nat} {σ : Mem} {Q : MQ1}   (h : Ec S d 154 [.inr (some 60)] σ (fun rv σ' => Ev S (d + 1) 155 2 [some (.inr (some 60))] (rv ++ []) σ' Q)) : Ev S (d + 1) 155 0 [some (.inr (some 60))] [] σ Q := by
  refine e_load q_155 rfl rfl rfl ?_
  exact e_virt q_155 rfl rfl (Nat.le_of_ble_eq_true rfl) rfl rfl (Nat.le_of_ble_eq_true rfl) rfl h
theorem g_155_2 {S : Nat × (Nat → Int32)} {d : Nat} {σ : Mem} {Q : MQ1} {o0 : Option MV} {y0 : Int32}  (h : Q [.inl y0] σ) : Ev S (d + 1) 155 2 [o0] [.inl y0] σ Q := by
  exact e_ireturn q_155 rfl rfl h
theorem q_156 : m_code 156 = mc_156 := rfl
theorem g_156_0 {S : Nat × (Nat → Int32)} {d : Nat} {σ : Mem} {Q : MQ1} {x1 : Int32}  (h : Ec S d 122 [.inr (some 60), .inl x1, .inl 3] σ (fun rv σ' => Ev S (d + 1) 156 4 [some (.inr (some 60)), some (.inl x1)] (rv ++ []) σ' Q)) : Ev S (d + 1) 156 0 [some (.inr (some 60)), some (.inl x1)] [] σ Q := by
  refine e_load q_156 rfl rfl rfl ?_
  refine e_load q_156 rfl rfl rfl ?_
  refine e_push q_156 rfl ?_
  exact e_virt q_156 rfl rfl (Nat.le_of_ble_eq_true rfl) rfl rfl (Nat.le_of_ble_eq_true rfl) rfl h
theorem g_156_4 {S : Nat × (Nat → Int32)} {d : Nat} {σ : Mem} {Q : MQ1} {x1 : Int32} {y0 : Int32}  (h : (((¬ y0 = 0) → Ec S d 122 [.inr (some 60), .inl x1, .inl 6] σ (fun rv σ' => Ev S (d + 1) 156 11 [some (.inr (some 60)), some (.inl x1)] (rv ++ []) σ' Q)) ∧ (¬ (¬ y0 = 0) → Q [.inl (-1)] σ))) : Ev S (d + 1) 156 4 [some (.inr (some 60)), some (.inl x1)] [.inl y0] σ Q := by
  refine e_if (P := ¬ y0 = 0) q_156 rfl m_c1 (fun c => ?_) (fun c => ?_)
  · replace h := h.1 c
    refine e_load q_156 rfl rfl rfl ?_
    refine e_load q_156 rfl rfl rfl ?_
    refine e_push q_156 rfl ?_
    exact e_virt q_156 rfl rfl (Nat.le_of_ble_eq_true rfl) rfl rfl (Nat.le_of_ble_eq_true rfl) rfl h
  · replace h := h.2 c
    refine e_push q_156 rfl ?_
    refine e_goto q_156 rfl ?_
    exact e_ireturn q_156 rfl rfl h
theorem g_156_11 {S : Nat × (Nat → Int32)} {d : Nat} {σ : Mem} {Q : MQ1} {o0 : Option MV} {o1 : Option MV} {y0 : Int32}  (h : Q [.inl (y0 + 1)] σ) : Ev S (d + 1) 156 11 [o0, o1] [.inl y0] σ Q := by
  refine e_push q_156 rfl ?_
  refine e_bin (r := y0 + 1) q_156 rfl rfl ?_
  exact e_ireturn q_156 rfl rfl h
theorem q_157 : m_code 157 = mc_157 := rfl
theorem g_157_0 {S : Nat × (Nat → Int32)} {d : Nat} {σ : Mem} {Q : MQ1} {x1 : Int32}  (h : Ec S d 122 [.inr (some 60), .inl x1, .inl 6] σ (fun rv σ' => Ev S (d + 1) 157 4 [some (.inr (some 60)), some (.inl x1)] (rv ++ []) σ' Q)) : Ev S (d + 1) 157 0 [some (.inr (some 60)), some (.inl x1)] [] σ Q := by
  refine e_load q_157 rfl rfl rfl ?_
  refine e_load q_157 rfl rfl rfl ?_
  refine e_push q_157 rfl ?_
  exact e_virt q_157 rfl rfl (Nat.le_of_ble_eq_true rfl) rfl rfl (Nat.le_of_ble_eq_true rfl) rfl h
theorem g_157_4 {S : Nat × (Nat → Int32)} {d : Nat} {σ : Mem} {Q : MQ1} {x1 : Int32} {y0 : Int32}  (h : ((6 ≤ y0 → Q [.inl 0] σ) ∧ (¬ (6 ≤ y0) → Ec S d 122 [.inr (some 60), .inl x1, .inl 7] σ (fun rv σ' => Ev S (d + 1) 157 10 [some (.inr (some 60)), some (.inl x1)] (rv ++ []) σ' Q)))) : Ev S (d + 1) 157 4 [some (.inr (some 60)), some (.inl x1)] [.inl y0] σ Q := by
  refine e_push q_157 rfl ?_
  refine e_icmp (P := 6 ≤ y0) q_157 rfl m_c3 (fun c => ?_) (fun c => ?_)
  · replace h := h.1 c
    refine e_push q_157 rfl ?_
    exact e_zreturn q_157 rfl rfl (by decide) h
  · replace h := h.2 c
    refine e_load q_157 rfl rfl rfl ?_
    refine e_load q_157 rfl rfl rfl ?_
    refine e_push q_157 rfl ?_
    exact e_virt q_157 rfl rfl (Nat.le_of_ble_eq_true rfl) rfl rfl (Nat.le_of_ble_eq_true rfl) rfl h
theorem g_157_10 {S : Nat × (Nat → Int32)} {d : Nat} {σ : Mem} {Q : MQ1} {x1 : Int32} {y0 : Int32}  (h : ((6 ≤ y0 → Q [.inl 0] σ) ∧ (¬ (6 ≤ y0) → Ec S d 150 [.inr (some 60), .inl 2, .inl x1] σ (fun rv σ' => Ev S (d + 1) 157 16 [some (.inr (some 60)), some (.inl x1)] (rv ++ []) σ' Q)))) : Ev S (d + 1) 157 10 [some (.inr (some 60)), some (.inl x1)] [.inl y0] σ Q := by
  refine e_push q_157 rfl ?_
  refine e_icmp (P := 6 ≤ y0) q_157 rfl m_c3 (fun c => ?_) (fun c => ?_)
  · replace h := h.1 c
    refine e_push q_157 rfl ?_
    exact e_zreturn q_157 rfl rfl (by decide) h
  · replace h := h.2 c
    refine e_load q_157 rfl rfl rfl ?_
    refine e_push q_157 rfl ?_
    refine e_load q_157 rfl rfl rfl ?_
    exact e_virt q_157 rfl rfl (Nat.le_of_ble_eq_true rfl) rfl rfl (Nat.le_of_ble_eq_true rfl) rfl h
theorem g_157_16 {S : Nat × (Nat → Int32)} {d : Nat} {σ : Mem} {Q : MQ1} {x1 : Int32} {y0 : Int32}  (h : ((y0 = 0 → Q [.inl 0] σ) ∧ (¬ (y0 = 0) → Ec S d 150 [.inr (some 60), .inl 4, .inl x1] σ (fun rv σ' => Ev S (d + 1) 157 21 [some (.inr (some 60)), some (.inl x1)] (rv ++ []) σ' Q)))) : Ev S (d + 1) 157 16 [some (.inr (some 60)), some (.inl x1)] [.inl y0] σ Q := by
  refine e_if (P := y0 = 0) q_157 rfl m_c0 (fun c => ?_) (fun c => ?_)
  · replace h := h.1 c
    refine e_push q_157 rfl ?_
    exact e_zreturn q_157 rfl rfl (by decide) h
  · replace h := h.2 c
    refine e_load q_157 rfl rfl rfl ?_
    refine e_push q_157 rfl ?_
    refine e_load q_157 rfl rfl rfl ?_
    exact e_virt q_157 rfl rfl (Nat.le_of_ble_eq_true rfl) rfl rfl (Nat.le_of_ble_eq_true rfl) rfl h
theorem g_157_21 {S : Nat × (Nat → Int32)} {d : Nat} {σ : Mem} {Q : MQ1} {o0 : Option MV} {o1 : Option MV} {y0 : Int32}  (h : ((y0 = 0 → Q [.inl 0] σ) ∧ (¬ (y0 = 0) → Q [.inl 1] σ))) : Ev S (d + 1) 157 21 [o0, o1] [.inl y0] σ Q := by
  refine e_if (P := y0 = 0) q_157 rfl m_c0 (fun c => ?_) (fun c => ?_)
  · replace h := h.1 c
    refine e_push q_157 rfl ?_
    exact e_zreturn q_157 rfl rfl (by decide) h
  · replace h := h.2 c
    refine e_push q_157 rfl ?_
    refine e_goto q_157 rfl ?_
    exact e_zreturn q_157 rfl rfl (by decide) h
theorem q_158 : m_code 158 = mc_158 := rfl
theorem g_158_0 {S : Nat × (Nat → Int32)} {d : Nat} {σ : Mem} {Q : MQ1} {x1 : Int32}  (h : Ec S d 122 [.inr (some 60), .inl x1, .inl 3] σ (fun rv σ' => Ev S (d + 1) 158 4 [some (.inr (some 60)), some (.inl x1)] (rv ++ []) σ' Q)) : Ev S (d + 1) 158 0 [some (.inr (some 60)), some (.inl x1)] [] σ Q := by
  refine e_load q_158 rfl rfl rfl ?_
  refine e_load q_158 rfl rfl rfl ?_
  refine e_push q_158 rfl ?_
  exact e_virt q_158 rfl rfl (Nat.le_of_ble_eq_true rfl) rfl rfl (Nat.le_of_ble_eq_true rfl) rfl h
theorem g_158_4 {S : Nat × (Nat → Int32)} {d : Nat} {σ : Mem} {Q : MQ1} {x1 : Int32} {y0 : Int32}  (h : ((y0 ≤ 0 → Ec S d 122 [.inr (some 60), .inl x1, .inl 6] σ (fun rv σ' => Ev S (d + 1) 158 29 [some (.inr (some 60)), some (.inl x1)] (rv ++ [.inl 6, .inl x1, .inr (some 60)]) σ' Q)) ∧ (¬ (y0 ≤ 0) → Ec S d 122 [.inr (some 60), .inl x1, .inl 7] σ (fun rv σ' => Ev S (d + 1) 158 9 [some (.inr (some 60)), some (.inl x1)] (rv ++ []) σ' Q)))) : Ev S (d + 1) 158 4 [some (.inr (some 60)), some (.inl x1)] [.inl y0] σ Q := by
  refine e_if (P := y0 ≤ 0) q_158 rfl m_c5 (fun c => ?_) (fun c => ?_)
  · replace h := h.1 c
    refine e_load q_158 rfl rfl rfl ?_
    refine e_load q_158 rfl rfl rfl ?_
    refine e_push q_158 rfl ?_
    refine e_load q_158 rfl rfl rfl ?_
    refine e_load q_158 rfl rfl rfl ?_
    refine e_push q_158 rfl ?_
    exact e_virt q_158 rfl rfl (Nat.le_of_ble_eq_true rfl) rfl rfl (Nat.le_of_ble_eq_true rfl) rfl h
  · replace h := h.2 c
    refine e_load q_158 rfl rfl rfl ?_
    refine e_load q_158 rfl rfl rfl ?_
    refine e_push q_158 rfl ?_
    exact e_virt q_158 rfl rfl (Nat.le_of_ble_eq_true rfl) rfl rfl (Nat.le_of_ble_eq_true rfl) rfl h
theorem g_158_29 {S : Nat × (Nat → Int32)} {d : Nat} {σ : Mem} {Q : MQ1} {x1 : Int32} {y1 : Int32} {y2 : Int32} {y3 : Int32}  (h : Ec S d 123 [.inr (some 60), .inl y1, .inl y2, .inl (y3 + 1)] σ (fun rv σ' => Ev S (d + 1) 158 32 [some (.inr (some 60)), some (.inl x1)] (rv ++ []) σ' Q)) : Ev S (d + 1) 158 29 [some (.inr (some 60)), some (.inl x1)] [.inl y3, .inl y2, .inl y1, .inr (some 60)] σ Q := by
  refine e_push q_158 rfl ?_
  refine e_bin (r := y3 + 1) q_158 rfl rfl ?_
  exact e_virt q_158 rfl rfl (Nat.le_of_ble_eq_true rfl) rfl rfl (Nat.le_of_ble_eq_true rfl) rfl h
theorem g_158_9 {S : Nat × (Nat → Int32)} {d : Nat} {σ : Mem} {Q : MQ1} {x1 : Int32} {y0 : Int32}  (h : ((5 ≤ y0 → Ec S d 122 [.inr (some 60), .inl x1, .inl 6] σ (fun rv σ' => Ev S (d + 1) 158 29 [some (.inr (some 60)), some (.inl x1)] (rv ++ [.inl 6, .inl x1, .inr (some 60)]) σ' Q)) ∧ (¬ (5 ≤ y0) → Ec S d 122 [.inr (some 60), .inl x1, .inl 7] σ (fun rv σ' => Ev S (d + 1) 158 18 [some (.inr (some 60)), some (.inl x1)] (rv ++ [.inl 7, .inl x1, .inr (some 60)]) σ' Q)))) : Ev S (d + 1) 158 9 [some (.inr (some 60)), some (.inl x1)] [.inl y0] σ Q := by
  refine e_push q_158 rfl ?_
  refine e_icmp (P := 5 ≤ y0) q_158 rfl m_c3 (fun c => ?_) (fun c => ?_)
  · replace h := h.1 c
    refine e_load q_158 rfl rfl rfl ?_
    refine e_load q_158 rfl rfl rfl ?_
    refine e_push q_158 rfl ?_
    refine e_load q_158 rfl rfl rfl ?_
    refine e_load q_158 rfl rfl rfl ?_
    refine e_push q_158 rfl ?_
    exact e_virt q_158 rfl rfl (Nat.le_of_ble_eq_true rfl) rfl rfl (Nat.le_of_ble_eq_true rfl) rfl h
  · replace h := h.2 c
    refine e_load q_158 rfl rfl rfl ?_
    refine e_load q_158 rfl rfl rfl ?_
    refine e_push q_158 rfl ?_
    refine e_load q_158 rfl rfl rfl ?_
    refine e_load q_158 rfl rfl rfl ?_
    refine e_push q_158 rfl ?_
    exact e_virt q_158 rfl rfl (Nat.le_of_ble_eq_true rfl) rfl rfl (Nat.le_of_ble_eq_true rfl) rfl h
theorem g_158_32 {S : Nat × (Nat → Int32)} {d : Nat} {σ : Mem} {Q : MQ1} {x1 : Int32}  (h : Ec S d 156 [.inr (some 60), .inl x1] σ (fun rv σ' => Ev S (d + 1) 158 38 [some (.inr (some 60)), some (.inl x1)] (rv ++ [.inl 7, .inl x1, .inr (some 60)]) σ' Q)) : Ev S (d + 1) 158 32 [some (.inr (some 60)), some (.inl x1)] [] σ Q := by
  refine e_load q_158 rfl rfl rfl ?_
  refine e_load q_158 rfl rfl rfl ?_
  refine e_push q_158 rfl ?_
  refine e_load q_158 rfl rfl rfl ?_
  refine e_load q_158 rfl rfl rfl ?_
  exact e_virt q_158 rfl rfl (Nat.le_of_ble_eq_true rfl) rfl rfl (Nat.le_of_ble_eq_true rfl) rfl h
theorem g_158_18 {S : Nat × (Nat → Int32)} {d : Nat} {σ : Mem} {Q : MQ1} {x1 : Int32} {y1 : Int32} {y2 : Int32} {y3 : Int32}  (h : Ec S d 123 [.inr (some 60), .inl y1, .inl y2, .inl (y3 + 1)] σ (fun rv σ' => Ev S (d + 1) 158 21 [some (.inr (some 60)), some (.inl x1)] (rv ++ []) σ' Q)) : Ev S (d + 1) 158 18 [some (.inr (some 60)), some (.inl x1)] [.inl y3, .inl y2, .inl y1, .inr (some 60)] σ Q := by
  refine e_push q_158 rfl ?_
  refine e_bin (r := y3 + 1) q_158 rfl rfl ?_
  exact e_virt q_158 rfl rfl (Nat.le_of_ble_eq_true rfl) rfl rfl (Nat.le_of_ble_eq_true rfl) rfl h
theorem g_158_38 {S : Nat × (Nat → Int32)} {d : Nat} {σ : Mem} {Q : MQ1} {x1 : Int32} {y1 : Int32} {y2 : Int32} {y3 : Int32}  (h : Ec S d 123 [.inr (some 60), .inl y1, .inl y2, .inl y3] σ (fun rv σ' => Ev S (d + 1) 158 39 [some (.inr (some 60)), some (.inl x1)] (rv ++ []) σ' Q)) : Ev S (d + 1) 158 38 [some (.inr (some 60)), some (.inl x1)] [.inl y3, .inl y2, .inl y1, .inr (some 60)] σ Q := by
  exact e_virt q_158 rfl rfl (Nat.le_of_ble_eq_true rfl) rfl rfl (Nat.le_of_ble_eq_true rfl) rfl h
theorem g_158_21 {S : Nat × (Nat → Int32)} {d : Nat} {σ : Mem} {Q : MQ1} {x1 : Int32}  (h : Ec S d 122 [.inr (some 60), .inl x1, .inl 6] σ (fun rv σ' => Ev S (d + 1) 158 43 [some (.inr (some 60)), some (.inl x1)] (rv ++ []) σ' Q)) : Ev S (d + 1) 158 21 [some (.inr (some 60)), some (.inl x1)] [] σ Q := by
  refine e_goto q_158 rfl ?_
  refine e_load q_158 rfl rfl rfl ?_
  refine e_load q_158 rfl rfl rfl ?_
  refine e_push q_158 rfl ?_
  exact e_virt q_158 rfl rfl (Nat.le_of_ble_eq_true rfl) rfl rfl (Nat.le_of_ble_eq_true rfl) rfl h
theorem g_158_39 {S : Nat × (Nat → Int32)} {d : Nat} {σ : Mem} {Q : MQ1} {x1 : Int32}  (h : Ec S d 122 [.inr (some 60), .inl x1, .inl 6] σ (fun rv σ' => Ev S (d + 1) 158 43 [some (.inr (some 60)), some (.inl x1)] (rv ++ []) σ' Q)) : Ev S (d + 1) 158 39 [some (.inr (some 60)), some (.inl x1)] [] σ Q := by
  refine e_load q_158 rfl rfl rfl ?_
  refine e_load q_158 rfl rfl rfl ?_
  refine e_push q_158 rfl ?_
  exact e_virt q_158 rfl rfl (Nat.le_of_ble_eq_true rfl) rfl rfl (Nat.le_of_ble_eq_true rfl) rfl h
theorem g_158_43 {S : Nat × (Nat → Int32)} {d : Nat} {σ : Mem} {Q : MQ1} {x1 : Int32} {y0 : Int32}  (h : ((6 ≤ y0 → Ec S d 122 [.inr (some 60), .inl x1, .inl 6] σ (fun rv σ' => Ev S (d + 1) 158 53 [some (.inr (some 60)), some (.inl x1)] (rv ++ []) σ' Q)) ∧ (¬ (6 ≤ y0) → Ec S d 157 [.inr (some 60), .inl x1] σ (fun rv σ' => Ev S (d + 1) 158 48 [some (.inr (some 60)), some (.inl x1)] (rv ++ []) σ' Q)))) : Ev S (d + 1) 158 43 [some (.inr (some 60)), some (.inl x1)] [.inl y0] σ Q := by
  refine e_push q_158 rfl ?_
  refine e_icmp (P := 6 ≤ y0) q_158 rfl m_c3 (fun c => ?_) (fun c => ?_)
  · replace h := h.1 c
    refine e_load q_158 rfl rfl rfl ?_
    refine e_load q_158 rfl rfl rfl ?_
    refine e_push q_158 rfl ?_
    exact e_virt q_158 rfl rfl (Nat.le_of_ble_eq_true rfl) rfl rfl (Nat.le_of_ble_eq_true rfl) rfl h
  · replace h := h.2 c
    refine e_load q_158 rfl rfl rfl ?_
    refine e_load q_158 rfl rfl rfl ?_
    exact e_virt q_158 rfl rfl (Nat.le_of_ble_eq_true rfl) rfl rfl (Nat.le_of_ble_eq_true rfl) rfl h
theorem g_158_53 {S : Nat × (Nat → Int32)} {d : Nat} {σ : Mem} {Q : MQ1} {o0 : Option MV} {o1 : Option MV} {y0 : Int32}  (h : ((6 ≤ y0 → Q [.inl 0] σ) ∧ (¬ (6 ≤ y0) → Q [.inl 1] σ))) : Ev S (d + 1) 158 53 [o0, o1] [.inl y0] σ Q := by
  refine e_push q_158 rfl ?_
  refine e_icmp (P := 6 ≤ y0) q_158 rfl m_c3 (fun c => ?_) (fun c => ?_)
  · replace h := h.1 c
    refine e_push q_158 rfl ?_
    exact e_zreturn q_158 rfl rfl (by decide) h
  · replace h := h.2 c
    refine e_push q_158 rfl ?_
    refine e_goto q_158 rfl ?_
    exact e_zreturn q_158 rfl rfl (by decide) h
theorem g_158_48 {S : Nat × (Nat → Int32)} {d : Nat} {σ : Mem} {Q : MQ1} {x1 : Int32} {y0 : Int32}  (h : ((y0 = 0 → Ev S (d + 1) 158 0 [some (.inr (some 60)), some (.inl x1)] [] σ Q) ∧ (¬ (y0 = 0) → Ec S d 122 [.inr (some 60), .inl x1, .inl 6] σ (fun rv σ' => Ev S (d + 1) 158 53 [some (.inr (some 60)), some (.inl x1)] (rv ++ []) σ' Q)))) : Ev S (d + 1) 158 48 [some (.inr (some 60)), some (.inl x1)] [.inl y0] σ Q := by
  refine e_if (P := y0 = 0) q_158 rfl m_c0 (fun c => ?_) (fun c => ?_)
  · replace h := h.1 c
    exact h
  · replace h := h.2 c
    refine e_load q_158 rfl rfl rfl ?_
    refine e_load q_158 rfl rfl rfl ?_
    refine e_push q_158 rfl ?_
    exact e_virt q_158 rfl rfl (Nat.le_of_ble_eq_true rfl) rfl rfl (Nat.le_of_ble_eq_true rfl) rfl h
theorem q_159 : m_code 159 = mc_159 := rfl
theorem g_159_0 {S : Nat × (Nat → Int32)} {d : Nat} {σ : Mem} {Q : MQ1} {x1 : Int32}  (h : Ec S d 123 [.inr (some 60), .inl x1, .inl 6, .inl 0] σ (fun rv σ' => Ev S (d + 1) 159 5 [some (.inr (some 60)), some (.inl x1)] (rv ++ []) σ' Q)) : Ev S (d + 1) 159 0 [some (.inr (some 60)), some (.inl x1)] [] σ Q := by
  refine e_load q_159 rfl rfl rfl ?_
  refine e_load q_159 rfl rfl rfl ?_
  refine e_push q_159 rfl ?_
  refine e_push q_159 rfl ?_
  exact e_virt q_159 rfl rfl (Nat.le_of_ble_eq_true rfl) rfl rfl (Nat.le_of_ble_eq_true rfl) rfl h
theorem g_159_5 {S : Nat × (Nat → Int32)} {d : Nat} {σ : Mem} {Q : MQ1} {x1 : Int32}  (h : Ec S d 156 [.inr (some 60), .inl x1] σ (fun rv σ' => Ev S (d + 1) 159 11 [some (.inr (some 60)), some (.inl x1)] (rv ++ [.inl 7, .inl x1, .inr (some 60)]) σ' Q)) : Ev S (d + 1) 159 5 [some (.inr (some 60)), some (.inl x1)] [] σ Q := by
  refine e_load q_159 rfl rfl rfl ?_
  refine e_load q_159 rfl rfl rfl ?_
  refine e_push q_159 rfl ?_
  refine e_load q_159 rfl rfl rfl ?_
  refine e_load q_159 rfl rfl rfl ?_
  exact e_virt q_159 rfl rfl (Nat.le_of_ble_eq_true rfl) rfl rfl (Nat.le_of_ble_eq_true rfl) rfl h
theorem g_159_11 {S : Nat × (Nat → Int32)} {d : Nat} {σ : Mem} {Q : MQ1} {x1 : Int32} {y1 : Int32} {y2 : Int32} {y3 : Int32}  (h : Ec S d 123 [.inr (some 60), .inl y1, .inl y2, .inl y3] σ (fun rv σ' => Ev S (d + 1) 159 12 [some (.inr (some 60)), some (.inl x1)] (rv ++ []) σ' Q)) : Ev S (d + 1) 159 11 [some (.inr (some 60)), some (.inl x1)] [.inl y3, .inl y2, .inl y1, .inr (some 60)] σ Q := by
  exact e_virt q_159 rfl rfl (Nat.le_of_ble_eq_true rfl) rfl rfl (Nat.le_of_ble_eq_true rfl) rfl h
theorem g_159_12 {S : Nat × (Nat → Int32)} {d : Nat} {σ : Mem} {Q : MQ1} {x1 : Int32}  (h : Ec S d 157 [.inr (some 60), .inl x1] σ (fun rv σ' => Ev S (d + 1) 159 15 [some (.inr (some 60)), some (.inl x1)] (rv ++ []) σ' Q)) : Ev S (d + 1) 159 12 [some (.inr (some 60)), some (.inl x1)] [] σ Q := by
  refine e_load q_159 rfl rfl rfl ?_
  refine e_load q_159 rfl rfl rfl ?_
  exact e_virt q_159 rfl rfl (Nat.le_of_ble_eq_true rfl) rfl rfl (Nat.le_of_ble_eq_true rfl) rfl h
theorem g_159_15 {S : Nat × (Nat → Int32)} {d : Nat} {σ : Mem} {Q : MQ1} {x1 : Int32} {y0 : Int32}  (h : (((¬ y0 = 0) → Q [.inl 1] σ) ∧ (¬ (¬ y0 = 0) → Ec S d 158 [.inr (some 60), .inl x1] σ (fun rv σ' => Ev S (d + 1) 159 19 [some (.inr (some 60)), some (.inl x1)] (rv ++ []) σ' Q)))) : Ev S (d + 1) 159 15 [some (.inr (some 60)), some (.inl x1)] [.inl y0] σ Q := by
  refine e_if (P := ¬ y0 = 0) q_159 rfl m_c1 (fun c => ?_) (fun c => ?_)
  · replace h := h.1 c
    refine e_push q_159 rfl ?_
    refine e_goto q_159 rfl ?_
    exact e_zreturn q_159 rfl rfl (by decide) h
  · replace h := h.2 c
    refine e_load q_159 rfl rfl rfl ?_
    refine e_load q_159 rfl rfl rfl ?_
    exact e_virt q_159 rfl rfl (Nat.le_of_ble_eq_true rfl) rfl rfl (Nat.le_of_ble_eq_true rfl) rfl h
theorem g_159_19 {S : Nat × (Nat → Int32)} {d : Nat} {σ : Mem} {Q : MQ1} {o0 : Option MV} {o1 : Option MV} {y0 : Int32}  (h : ((y0 = 0 → Q [.inl 0] σ) ∧ (¬ (y0 = 0) → Q [.inl 1] σ))) : Ev S (d + 1) 159 19 [o0, o1] [.inl y0] σ Q := by
  refine e_if (P := y0 = 0) q_159 rfl m_c0 (fun c => ?_) (fun c => ?_)
  · replace h := h.1 c
    refine e_push q_159 rfl ?_
    exact e_zreturn q_159 rfl rfl (by decide) h
  · replace h := h.2 c
    refine e_push q_159 rfl ?_
    refine e_goto q_159 rfl ?_
    exact e_zreturn q_159 rfl rfl (by decide) h
theorem q_160 : m_code 160 = mc_160 := rfl
theorem g_160_0 {S : Nat × (Nat → Int32)} {d : Nat} {σ : Mem} {Q : MQ1}   (h : Ev S (d + 1) 160 4 [some (.inr (some 60)), some (.inl 0), some (.inl 0)] [] σ Q) : Ev S (d + 1) 160 0 [some (.inr (some 60)), none, none] [] σ Q := by
  refine e_push q_160 rfl ?_
  refine e_store (ls' := [some (.inr (some 60)), some (.inl 0), none]) q_160 rfl (Nat.le_of_ble_eq_true rfl) rfl rfl ?_
  refine e_push q_160 rfl ?_
  refine e_store (ls' := [some (.inr (some 60)), some (.inl 0), some (.inl 0)]) q_160 rfl (Nat.le_of_ble_eq_true rfl) rfl rfl ?_
  exact h
theorem g_160_4 {S : Nat × (Nat → Int32)} {d : Nat} {σ : Mem} {Q : MQ1} {x1 : Int32} {x2 : Int32}  (h : (((σ 60 9) ≤ x2 → Q [.inl x1] σ) ∧ (¬ ((σ 60 9) ≤ x2) → (∃ j1 : Nat, x2 = nI j1 ∧ j1 < 8 ∧ Ec S d 122 [.inr (some 60), .inl (σ 67 j1), .inl 6] σ (fun rv σ' => Ev S (d + 1) 160 16 [some (.inr (some 60)), some (.inl x1), some (.inl x2)] (rv ++ [.inl x1]) σ' Q))))) : Ev S (d + 1) 160 4 [some (.inr (some 60)), some (.inl x1), some (.inl x2)] [] σ Q := by
  refine e_load q_160 rfl rfl rfl ?_
  refine e_load q_160 rfl rfl rfl ?_
  refine e_getI q_160 rfl rfl rfl ?_
  refine e_icmp (P := (σ 60 9) ≤ x2) q_160 rfl m_c3 (fun c => ?_) (fun c => ?_)
  · replace h := h.1 c
    refine e_load q_160 rfl rfl rfl ?_
    exact e_ireturn q_160 rfl rfl h
  · replace h := h.2 c
    refine e_load q_160 rfl rfl rfl ?_
    refine e_load q_160 rfl rfl rfl ?_
    refine e_load q_160 rfl rfl rfl ?_
    refine e_getR q_160 rfl rfl rfl ?_
    refine e_load q_160 rfl rfl rfl ?_
    obtain ⟨j1, hjj1, hlj1, h⟩ := h
    refine e_iald q_160 rfl rfl (by decide) hjj1 hlj1 ?_
    refine e_push q_160 rfl ?_
    exact e_virt q_160 rfl rfl (Nat.le_of_ble_eq_true rfl) rfl rfl (Nat.le_of_ble_eq_true rfl) rfl h
theorem g_160_16 {S : Nat × (Nat → Int32)} {d : Nat} {σ : Mem} {Q : MQ1} {o1 : Option MV} {x2 : Int32} {y0 : Int32} {y1 : Int32}  (h : (∃ j1 : Nat, 2 * x2 = nI j1 ∧ j1 < 16 ∧ ((y1 = (σ 68 j1) → (∃ j2 : Nat, x2 = nI j2 ∧ j2 < 8 ∧ Ec S d 122 [.inr (some 60), .inl (σ 67 j2), .inl 7] σ (fun rv σ' => Ev S (d + 1) 160 36 [some (.inr (some 60)), some (.inl (y0 + 0)), some (.inl x2)] (rv ++ [.inl (y0 + 0)]) σ' Q))) ∧ (¬ (y1 = (σ 68 j1)) → (∃ j3 : Nat, x2 = nI j3 ∧ j3 < 8 ∧ Ec S d 122 [.inr (some 60), .inl (σ 67 j3), .inl 7] σ (fun rv σ' => Ev S (d + 1) 160 36 [some (.inr (some 60)), some (.inl (y0 + 1)), some (.inl x2)] (rv ++ [.inl (y0 + 1)]) σ' Q)))))) : Ev S (d + 1) 160 16 [some (.inr (some 60)), o1, some (.inl x2)] [.inl y1, .inl y0] σ Q := by
  refine e_load q_160 rfl rfl rfl ?_
  refine e_getR q_160 rfl rfl rfl ?_
  refine e_push q_160 rfl ?_
  refine e_load q_160 rfl rfl rfl ?_
  refine e_bin (r := 2 * x2) q_160 rfl rfl ?_
  obtain ⟨j1, hjj1, hlj1, h⟩ := h
  refine e_iald q_160 rfl rfl (by decide) hjj1 hlj1 ?_
  refine e_icmp (P := y1 = (σ 68 j1)) q_160 rfl m_c0 (fun c => ?_) (fun c => ?_)
  · replace h := h.1 c
    refine e_push q_160 rfl ?_
    refine e_bin (r := y0 + 0) q_160 rfl rfl ?_
    refine e_store (ls' := [some (.inr (some 60)), some (.inl (y0 + 0)), some (.inl x2)]) q_160 rfl (Nat.le_of_ble_eq_true rfl) rfl rfl ?_
    refine e_load q_160 rfl rfl rfl ?_
    refine e_load q_160 rfl rfl rfl ?_
    refine e_load q_160 rfl rfl rfl ?_
    refine e_getR q_160 rfl rfl rfl ?_
    refine e_load q_160 rfl rfl rfl ?_
    obtain ⟨j2, hjj2, hlj2, h⟩ := h
    refine e_iald q_160 rfl rfl (by decide) hjj2 hlj2 ?_
    refine e_push q_160 rfl ?_
    exact e_virt q_160 rfl rfl (Nat.le_of_ble_eq_true rfl) rfl rfl (Nat.le_of_ble_eq_true rfl) rfl h
  · replace h := h.2 c
    refine e_push q_160 rfl ?_
    refine e_goto q_160 rfl ?_
    refine e_bin (r := y0 + 1) q_160 rfl rfl ?_
    refine e_store (ls' := [some (.inr (some 60)), some (.inl (y0 + 1)), some (.inl x2)]) q_160 rfl (Nat.le_of_ble_eq_true rfl) rfl rfl ?_
    refine e_load q_160 rfl rfl rfl ?_
    refine e_load q_160 rfl rfl rfl ?_
    refine e_load q_160 rfl rfl rfl ?_
    refine e_getR q_160 rfl rfl rfl ?_
    refine e_load q_160 rfl rfl rfl ?_
    obtain ⟨j3, hjj3, hlj3, h⟩ := h
    refine e_iald q_160 rfl rfl (by decide) hjj3 hlj3 ?_
    refine e_push q_160 rfl ?_
    exact e_virt q_160 rfl rfl (Nat.le_of_ble_eq_true rfl) rfl rfl (Nat.le_of_ble_eq_true rfl) rfl h
theorem g_160_36 {S : Nat × (Nat → Int32)} {d : Nat} {σ : Mem} {Q : MQ1} {o1 : Option MV} {x2 : Int32} {y0 : Int32} {y1 : Int32}  (h : (∃ j1 : Nat, (2 * x2) + 1 = nI j1 ∧ j1 < 16 ∧ ((y1 = (σ 68 j1) → Ev S (d + 1) 160 4 [some (.inr (some 60)), some (.inl (y0 + 0)), some (.inl (x2 + 1))] [] σ Q) ∧ (¬ (y1 = (σ 68 j1)) → Ev S (d + 1) 160 4 [some (.inr (some 60)), some (.inl (y0 + 1)), some (.inl (x2 + 1))] [] σ Q)))) : Ev S (d + 1) 160 36 [some (.inr (some 60)), o1, some (.inl x2)] [.inl y1, .inl y0] σ Q := by
  refine e_load q_160 rfl rfl rfl ?_
  refine e_getR q_160 rfl rfl rfl ?_
  refine e_push q_160 rfl ?_
  refine e_load q_160 rfl rfl rfl ?_
  refine e_bin (r := 2 * x2) q_160 rfl rfl ?_
  refine e_push q_160 rfl ?_
  refine e_bin (r := (2 * x2) + 1) q_160 rfl rfl ?_
  obtain ⟨j1, hjj1, hlj1, h⟩ := h
  refine e_iald q_160 rfl rfl (by decide) hjj1 hlj1 ?_
  refine e_icmp (P := y1 = (σ 68 j1)) q_160 rfl m_c0 (fun c => ?_) (fun c => ?_)
  · replace h := h.1 c
    refine e_push q_160 rfl ?_
    refine e_bin (r := y0 + 0) q_160 rfl rfl ?_
    refine e_store (ls' := [some (.inr (some 60)), some (.inl (y0 + 0)), some (.inl x2)]) q_160 rfl (Nat.le_of_ble_eq_true rfl) rfl rfl ?_
    refine e_iinc (ls' := [some (.inr (some 60)), some (.inl (y0 + 0)), some (.inl (x2 + 1))]) q_160 rfl rfl rfl ?_
    refine e_goto q_160 rfl ?_
    exact h
  · replace h := h.2 c
    refine e_push q_160 rfl ?_
    refine e_goto q_160 rfl ?_
    refine e_bin (r := y0 + 1) q_160 rfl rfl ?_
    refine e_store (ls' := [some (.inr (some 60)), some (.inl (y0 + 1)), some (.inl x2)]) q_160 rfl (Nat.le_of_ble_eq_true rfl) rfl rfl ?_
    refine e_iinc (ls' := [some (.inr (some 60)), some (.inl (y0 + 1)), some (.inl (x2 + 1))]) q_160 rfl rfl rfl ?_
    refine e_goto q_160 rfl ?_
    exact h
theorem q_161 : m_code 161 = mc_161 := rfl
theorem g_161_0 {S : Nat × (Nat → Int32)} {d : Nat} {σ : Mem} {Q : MQ1} {x1 : Int32}  (h : Ec S d 151 [.inr (some 60)] σ (fun rv σ' => Ev S (d + 1) 161 2 [some (.inr (some 60)), some (.inl x1), none, none, none] (rv ++ []) σ' Q)) : Ev S (d + 1) 161 0 [some (.inr (some 60)), some (.inl x1), none, none, none] [] σ Q := by
  refine e_load q_161 rfl rfl rfl ?_
  exact e_virt q_161 rfl rfl (Nat.le_of_ble_eq_true rfl) rfl rfl (Nat.le_of_ble_eq_true rfl) rfl h
theorem g_161_2 {S : Nat × (Nat → Int32)} {d : Nat} {σ : Mem} {Q : MQ1} {x1 : Int32} {o2 : Option MV} {o3 : Option MV} {o4 : Option MV} {y0 : Int32}  (h : ((y0 = 0 → ((x1 = 0 → Ec S d 154 [.inr (some 60)] σ (fun rv σ' => Ev S (d + 1) 161 13 [some (.inr (some 60)), some (.inl x1), some (.inl 0), o3, o4] (rv ++ []) σ' Q)) ∧ (¬ (x1 = 0) → Ec S d 160 [.inr (some 60)] σ (fun rv σ' => Ev S (d + 1) 161 8 [some (.inr (some 60)), some (.inl x1), o2, o3, o4] (rv ++ []) σ' Q)))) ∧ (¬ (y0 = 0) → Q [] σ))) : Ev S (d + 1) 161 2 [some (.inr (some 60)), some (.inl x1), o2, o3, o4] [.inl y0] σ Q := by
  refine e_if (P := y0 = 0) q_161 rfl m_c0 (fun c => ?_) (fun c => ?_)
  · replace h := h.1 c
    refine e_load q_161 rfl rfl rfl ?_
    refine e_if (P := x1 = 0) q_161 rfl m_c0 (fun c => ?_) (fun c => ?_)
    · replace h := h.1 c
      refine e_push q_161 rfl ?_
      refine e_store (ls' := [some (.inr (some 60)), some (.inl x1), some (.inl 0), o3, o4]) q_161 rfl (Nat.le_of_ble_eq_true rfl) rfl rfl ?_
      refine e_load q_161 rfl rfl rfl ?_
      exact e_virt q_161 rfl rfl (Nat.le_of_ble_eq_true rfl) rfl rfl (Nat.le_of_ble_eq_true rfl) rfl h
    · replace h := h.2 c
      refine e_load q_161 rfl rfl rfl ?_
      exact e_virt q_161 rfl rfl (Nat.le_of_ble_eq_true rfl) rfl rfl (Nat.le_of_ble_eq_true rfl) rfl h
  · replace h := h.2 c
    exact e_return q_161 rfl rfl h
theorem g_161_13 {S : Nat × (Nat → Int32)} {d : Nat} {σ : Mem} {Q : MQ1} {o1 : Option MV} {x2 : Int32} {o3 : Option MV} {o4 : Option MV} {y0 : Int32}  (h : (((σ 60 12) = 0 → Ev S (d + 1) 161 37 [some (.inr (some 60)), o1, some (.inl x2), some (.inl y0), some (.inl 0)] [] (up (up σ 60 13 x2) 60 14 y0) Q) ∧ (¬ ((σ 60 12) = 0) → ((x2 < (σ 60 13) → Ev S (d + 1) 161 37 [some (.inr (some 60)), o1, some (.inl x2), some (.inl y0), some (.inl 0)] [] (up (up σ 60 13 x2) 60 14 y0) Q) ∧ (¬ (x2 < (σ 60 13)) → (((¬ x2 = (σ 60 13)) → Q [] (up σ 60 12 ((σ 60 12) + 1))) ∧ (¬ (¬ x2 = (σ 60 13)) → (((σ 60 14) ≤ y0 → Q [] (up σ 60 12 ((σ 60 12) + 1))) ∧ (¬ ((σ 60 14) ≤ y0) → Ev S (d + 1) 161 37 [some (.inr (some 60)), o1, some (.inl x2), some (.inl y0), some (.inl 0)] [] (up (up σ 60 13 x2) 60 14 y0) Q))))))))) : Ev S (d + 1) 161 13 [some (.inr (some 60)), o1, some (.inl x2), o3, o4] [.inl y0] σ Q := by
  refine e_store (ls' := [some (.inr (some 60)), o1, some (.inl x2), some (.inl y0), o4]) q_161 rfl (Nat.le_of_ble_eq_true rfl) rfl rfl ?_
  refine e_load q_161 rfl rfl rfl ?_
  refine e_getI q_161 rfl rfl rfl ?_
  refine e_if (P := (σ 60 12) = 0) q_161 rfl m_c0 (fun c => ?_) (fun c => ?_)
  · replace h := h.1 c
    refine e_load q_161 rfl rfl rfl ?_
    refine e_load q_161 rfl rfl rfl ?_
    refine e_putI q_161 rfl rfl rfl ?_
    refine e_load q_161 rfl rfl rfl ?_
    refine e_load q_161 rfl rfl rfl ?_
    refine e_putI q_161 rfl rfl rfl ?_
    refine e_push q_161 rfl ?_
    refine e_store (ls' := [some (.inr (some 60)), o1, some (.inl x2), some (.inl y0), some (.inl 0)]) q_161 rfl (Nat.le_of_ble_eq_true rfl) rfl rfl ?_
    exact h
  · replace h := h.2 c
    refine e_load q_161 rfl rfl rfl ?_
    refine e_load q_161 rfl rfl rfl ?_
    refine e_getI q_161 rfl rfl rfl ?_
    refine e_icmp (P := x2 < (σ 60 13)) q_161 rfl m_c2 (fun c => ?_) (fun c => ?_)
    · replace h := h.1 c
      refine e_load q_161 rfl rfl rfl ?_
      refine e_load q_161 rfl rfl rfl ?_
      refine e_putI q_161 rfl rfl rfl ?_
      refine e_load q_161 rfl rfl rfl ?_
      refine e_load q_161 rfl rfl rfl ?_
      refine e_putI q_161 rfl rfl rfl ?_
      refine e_push q_161 rfl ?_
      refine e_store (ls' := [some (.inr (some 60)), o1, some (.inl x2), some (.inl y0), some (.inl 0)]) q_161 rfl (Nat.le_of_ble_eq_true rfl) rfl rfl ?_
      exact h
    · replace h := h.2 c
      refine e_load q_161 rfl rfl rfl ?_
      refine e_load q_161 rfl rfl rfl ?_
      refine e_getI q_161 rfl rfl rfl ?_
      refine e_icmp (P := ¬ x2 = (σ 60 13)) q_161 rfl m_c1 (fun c => ?_) (fun c => ?_)
      · replace h := h.1 c
        refine e_load q_161 rfl rfl rfl ?_
        refine e_dup q_161 rfl ?_
        refine e_getI q_161 rfl rfl rfl ?_
        refine e_push q_161 rfl ?_
        refine e_bin (r := (σ 60 12) + 1) q_161 rfl rfl ?_
        refine e_putI q_161 rfl rfl rfl ?_
        exact e_return q_161 rfl rfl h
      · replace h := h.2 c
        refine e_load q_161 rfl rfl rfl ?_
        refine e_load q_161 rfl rfl rfl ?_
        refine e_getI q_161 rfl rfl rfl ?_
        refine e_icmp (P := (σ 60 14) ≤ y0) q_161 rfl m_c3 (fun c => ?_) (fun c => ?_)
        · replace h := h.1 c
          refine e_load q_161 rfl rfl rfl ?_
          refine e_dup q_161 rfl ?_
          refine e_getI q_161 rfl rfl rfl ?_
          refine e_push q_161 rfl ?_
          refine e_bin (r := (σ 60 12) + 1) q_161 rfl rfl ?_
          refine e_putI q_161 rfl rfl rfl ?_
          exact e_return q_161 rfl rfl h
        · replace h := h.2 c
          refine e_load q_161 rfl rfl rfl ?_
          refine e_load q_161 rfl rfl rfl ?_
          refine e_putI q_161 rfl rfl rfl ?_
          refine e_load q_161 rfl rfl rfl ?_
          refine e_load q_161 rfl rfl rfl ?_
          refine e_putI q_161 rfl rfl rfl ?_
          refine e_push q_161 rfl ?_
          refine e_store (ls' := [some (.inr (some 60)), o1, some (.inl x2), some (.inl y0), some (.inl 0)]) q_161 rfl (Nat.le_of_ble_eq_true rfl) rfl rfl ?_
          exact h
theorem g_161_8 {S : Nat × (Nat → Int32)} {d : Nat} {σ : Mem} {Q : MQ1} {o1 : Option MV} {o2 : Option MV} {o3 : Option MV} {o4 : Option MV} {y0 : Int32}  (h : Ec S d 154 [.inr (some 60)] σ (fun rv σ' => Ev S (d + 1) 161 13 [some (.inr (some 60)), o1, some (.inl y0), o3, o4] (rv ++ []) σ' Q)) : Ev S (d + 1) 161 8 [some (.inr (some 60)), o1, o2, o3, o4] [.inl y0] σ Q := by
  refine e_goto q_161 rfl ?_
  refine e_store (ls' := [some (.inr (some 60)), o1, some (.inl y0), o3, o4]) q_161 rfl (Nat.le_of_ble_eq_true rfl) rfl rfl ?_
  refine e_load q_161 rfl rfl rfl ?_
  exact e_virt q_161 rfl rfl (Nat.le_of_ble_eq_true rfl) rfl rfl (Nat.le_of_ble_eq_true rfl) rfl h
theorem g_161_37 {S : Nat × (Nat → Int32)} {d : Nat} {σ : Mem} {Q : MQ1} {o1 : Option MV} {o2 : Option MV} {o3 : Option MV} {x4 : Int32}  (h : (((σ 60 9) ≤ x4 → Q [] (up σ 60 12 ((σ 60 12) + 1))) ∧ (¬ ((σ 60 9) ≤ x4) → (∃ j1 : Nat, x4 = nI j1 ∧ j1 < 8 ∧ Ec S d 122 [.inr (some 60), .inl (σ 67 j1), .inl 6] σ (fun rv σ' => Ev S (d + 1) 161 53 [some (.inr (some 60)), o1, o2, o3, some (.inl x4)] (rv ++ [.inl (2 * x4), .inr (some 69)]) σ' Q))))) : Ev S (d + 1) 161 37 [some (.inr (some 60)), o1, o2, o3, some (.inl x4)] [] σ Q := by
  refine e_load q_161 rfl rfl rfl ?_
  refine e_load q_161 rfl rfl rfl ?_
  refine e_getI q_161 rfl rfl rfl ?_
  refine e_icmp (P := (σ 60 9) ≤ x4) q_161 rfl m_c3 (fun c => ?_) (fun c => ?_)
  · replace h := h.1 c
    refine e_load q_161 rfl rfl rfl ?_
    refine e_dup q_161 rfl ?_
    refine e_getI q_161 rfl rfl rfl ?_
    refine e_push q_161 rfl ?_
    refine e_bin (r := (σ 60 12) + 1) q_161 rfl rfl ?_
    refine e_putI q_161 rfl rfl rfl ?_
    exact e_return q_161 rfl rfl h
  · replace h := h.2 c
    refine e_load q_161 rfl rfl rfl ?_
    refine e_getR q_161 rfl rfl rfl ?_
    refine e_push q_161 rfl ?_
    refine e_load q_161 rfl rfl rfl ?_
    refine e_bin (r := 2 * x4) q_161 rfl rfl ?_
    refine e_load q_161 rfl rfl rfl ?_
    refine e_load q_161 rfl rfl rfl ?_
    refine e_getR q_161 rfl rfl rfl ?_
    refine e_load q_161 rfl rfl rfl ?_
    obtain ⟨j1, hjj1, hlj1, h⟩ := h
    refine e_iald q_161 rfl rfl (by decide) hjj1 hlj1 ?_
    refine e_push q_161 rfl ?_
    exact e_virt q_161 rfl rfl (Nat.le_of_ble_eq_true rfl) rfl rfl (Nat.le_of_ble_eq_true rfl) rfl h
theorem g_161_53 {S : Nat × (Nat → Int32)} {d : Nat} {σ : Mem} {Q : MQ1} {o1 : Option MV} {o2 : Option MV} {o3 : Option MV} {x4 : Int32} {y1 : Int32} {y2 : Int32}  (h : (∃ j1 : Nat, y1 = nI j1 ∧ j1 < 16 ∧ (∃ j2 : Nat, x4 = nI j2 ∧ j2 < 8 ∧ Ec S d 122 [.inr (some 60), .inl ((up σ 69 j1 y2) 67 j2), .inl 7] (up σ 69 j1 y2) (fun rv σ' => Ev S (d + 1) 161 68 [some (.inr (some 60)), o1, o2, o3, some (.inl x4)] (rv ++ [.inl ((2 * x4) + 1), .inr (some 69)]) σ' Q)))) : Ev S (d + 1) 161 53 [some (.inr (some 60)), o1, o2, o3, some (.inl x4)] [.inl y2, .inl y1, .inr (some 69)] σ Q := by
  obtain ⟨j1, hjj1, hlj1, h⟩ := h
  refine e_iast q_161 rfl rfl (by decide) hjj1 hlj1 ?_
  refine e_load q_161 rfl rfl rfl ?_
  refine e_getR q_161 rfl rfl rfl ?_
  refine e_push q_161 rfl ?_
  refine e_load q_161 rfl rfl rfl ?_
  refine e_bin (r := 2 * x4) q_161 rfl rfl ?_
  refine e_push q_161 rfl ?_
  refine e_bin (r := (2 * x4) + 1) q_161 rfl rfl ?_
  refine e_load q_161 rfl rfl rfl ?_
  refine e_load q_161 rfl rfl rfl ?_
  refine e_getR q_161 rfl rfl rfl ?_
  refine e_load q_161 rfl rfl rfl ?_
  obtain ⟨j2, hjj2, hlj2, h⟩ := h
  refine e_iald q_161 rfl rfl (by decide) hjj2 hlj2 ?_
  refine e_push q_161 rfl ?_
  exact e_virt q_161 rfl rfl (Nat.le_of_ble_eq_true rfl) rfl rfl (Nat.le_of_ble_eq_true rfl) rfl h
theorem g_161_68 {S : Nat × (Nat → Int32)} {d : Nat} {σ : Mem} {Q : MQ1} {o1 : Option MV} {o2 : Option MV} {o3 : Option MV} {x4 : Int32} {y1 : Int32} {y2 : Int32}  (h : (∃ j1 : Nat, y1 = nI j1 ∧ j1 < 16 ∧ Ev S (d + 1) 161 37 [some (.inr (some 60)), o1, o2, o3, some (.inl (x4 + 1))] [] (up σ 69 j1 y2) Q)) : Ev S (d + 1) 161 68 [some (.inr (some 60)), o1, o2, o3, some (.inl x4)] [.inl y2, .inl y1, .inr (some 69)] σ Q := by
  obtain ⟨j1, hjj1, hlj1, h⟩ := h
  refine e_iast q_161 rfl rfl (by decide) hjj1 hlj1 ?_
  refine e_iinc (ls' := [some (.inr (some 60)), o1, o2, o3, some (.inl (x4 + 1))]) q_161 rfl rfl rfl ?_
  refine e_goto q_161 rfl ?_
  exact h
theorem q_162 : m_code 162 = mc_162 := rfl
theorem g_162_0 {S : Nat × (Nat → Int32)} {d : Nat} {σ : Mem} {Q : MQ1} {x1 : Int32}  (h : Ev S (d + 1) 162 5 [some (.inr (some 60)), some (.inl x1), some (.inl 0), none, none] [] (up σ 60 9 0) Q) : Ev S (d + 1) 162 0 [some (.inr (some 60)), some (.inl x1), none, none, none] [] σ Q := by
  refine e_load q_162 rfl rfl rfl ?_
  refine e_push q_162 rfl ?_
  refine e_putI q_162 rfl rfl rfl ?_
  refine e_push q_162 rfl ?_
  refine e_store (ls' := [some (.inr (some 60)), some (.inl x1), some (.inl 0), none, none]) q_162 rfl (Nat.le_of_ble_eq_true rfl) rfl rfl ?_
  exact h
theorem g_162_5 {S : Nat × (Nat → Int32)} {d : Nat} {σ : Mem} {Q : MQ1} {x1 : Int32} {x2 : Int32} {o3 : Option MV} {o4 : Option MV}  (h : (((σ 61 0) ≤ x2 → (((σ 60 9) ≤ 4 → Ev S (d + 1) 162 66 [some (.inr (some 60)), some (.inl x1), some (.inl 1), some (.inl 0), o4] [] (up σ 60 12 0) Q) ∧ (¬ ((σ 60 9) ≤ 4) → Q [.inl 0] σ))) ∧ (¬ ((σ 61 0) ≤ x2) → Ec S d 124 [.inr (some 60), .inl x2] σ (fun rv σ' => Ev S (d + 1) 162 14 [some (.inr (some 60)), some (.inl x1), some (.inl x2), o3, o4] (rv ++ []) σ' Q)))) : Ev S (d + 1) 162 5 [some (.inr (some 60)), some (.inl x1), some (.inl x2), o3, o4] [] σ Q := by
  refine e_load q_162 rfl rfl rfl ?_
  refine e_load q_162 rfl rfl rfl ?_
  refine e_getR q_162 rfl rfl rfl ?_
  refine e_push q_162 rfl ?_
  refine e_iald (j := 0) q_162 rfl rfl (by decide) (by decide +kernel) (by decide) ?_
  refine e_icmp (P := (σ 61 0) ≤ x2) q_162 rfl m_c3 (fun c => ?_) (fun c => ?_)
  · replace h := h.1 c
    refine e_load q_162 rfl rfl rfl ?_
    refine e_getI q_162 rfl rfl rfl ?_
    refine e_push q_162 rfl ?_
    refine e_icmp (P := (σ 60 9) ≤ 4) q_162 rfl m_c5 (fun c => ?_) (fun c => ?_)
    · replace h := h.1 c
      refine e_load q_162 rfl rfl rfl ?_
      refine e_push q_162 rfl ?_
      refine e_putI q_162 rfl rfl rfl ?_
      refine e_push q_162 rfl ?_
      refine e_store (ls' := [some (.inr (some 60)), some (.inl x1), some (.inl 1), o3, o4]) q_162 rfl (Nat.le_of_ble_eq_true rfl) rfl rfl ?_
      refine e_push q_162 rfl ?_
      refine e_store (ls' := [some (.inr (some 60)), some (.inl x1), some (.inl 1), some (.inl 0), o4]) q_162 rfl (Nat.le_of_ble_eq_true rfl) rfl rfl ?_
      exact h
    · replace h := h.2 c
      refine e_push q_162 rfl ?_
      exact e_zreturn q_162 rfl rfl (by decide) h
  · replace h := h.2 c
    refine e_load q_162 rfl rfl rfl ?_
    refine e_load q_162 rfl rfl rfl ?_
    exact e_virt q_162 rfl rfl (Nat.le_of_ble_eq_true rfl) rfl rfl (Nat.le_of_ble_eq_true rfl) rfl h
theorem g_162_66 {S : Nat × (Nat → Int32)} {d : Nat} {σ : Mem} {Q : MQ1} {x1 : Int32} {x2 : Int32} {x3 : Int32} {o4 : Option MV}  (h : (((σ 60 9) ≤ x3 → Ev S (d + 1) 162 81 [some (.inr (some 60)), some (.inl x1), some (.inl x2), some (.inl x3), o4] [] σ Q) ∧ (¬ ((σ 60 9) ≤ x3) → ((x2 = 0 → Ev S (d + 1) 162 81 [some (.inr (some 60)), some (.inl x1), some (.inl x2), some (.inl x3), o4] [] σ Q) ∧ (¬ (x2 = 0) → (∃ j1 : Nat, x3 = nI j1 ∧ j1 < 8 ∧ Ec S d 159 [.inr (some 60), .inl (σ 67 j1)] σ (fun rv σ' => Ev S (d + 1) 162 78 [some (.inr (some 60)), some (.inl x1), some (.inl x2), some (.inl x3), o4] (rv ++ []) σ' Q))))))) : Ev S (d + 1) 162 66 [some (.inr (some 60)), some (.inl x1), some (.inl x2), some (.inl x3), o4] [] σ Q := by
  refine e_load q_162 rfl rfl rfl ?_
  refine e_load q_162 rfl rfl rfl ?_
  refine e_getI q_162 rfl rfl rfl ?_
  refine e_icmp (P := (σ 60 9) ≤ x3) q_162 rfl m_c3 (fun c => ?_) (fun c => ?_)
  · replace h := h.1 c
    exact h
  · replace h := h.2 c
    refine e_load q_162 rfl rfl rfl ?_
    refine e_if (P := x2 = 0) q_162 rfl m_c0 (fun c => ?_) (fun c => ?_)
    · replace h := h.1 c
      exact h
    · replace h := h.2 c
      refine e_load q_162 rfl rfl rfl ?_
      refine e_load q_162 rfl rfl rfl ?_
      refine e_getR q_162 rfl rfl rfl ?_
      refine e_load q_162 rfl rfl rfl ?_
      obtain ⟨j1, hjj1, hlj1, h⟩ := h
      refine e_iald q_162 rfl rfl (by decide) hjj1 hlj1 ?_
      exact e_virt q_162 rfl rfl (Nat.le_of_ble_eq_true rfl) rfl rfl (Nat.le_of_ble_eq_true rfl) rfl h
theorem g_162_14 {S : Nat × (Nat → Int32)} {d : Nat} {σ : Mem} {Q : MQ1} {x1 : Int32} {x2 : Int32} {o3 : Option MV} {o4 : Option MV} {y0 : Int32}  (h : (((¬ y0 = 0) → Ev S (d + 1) 162 5 [some (.inr (some 60)), some (.inl x1), some (.inl (x2 + 1)), o3, o4] [] σ Q) ∧ (¬ (¬ y0 = 0) → (∃ j1 : Nat, σ 60 9 = nI j1 ∧ j1 < 8 ∧ Ec S d 122 [.inr (some 60), .inl x2, .inl 6] (up σ 67 j1 x2) (fun rv σ' => Ev S (d + 1) 162 31 [some (.inr (some 60)), some (.inl x1), some (.inl x2), o3, o4] (rv ++ [.inl (2 * ((up σ 67 j1 x2) 60 9)), .inr (some 68)]) σ' Q))))) : Ev S (d + 1) 162 14 [some (.inr (some 60)), some (.inl x1), some (.inl x2), o3, o4] [.inl y0] σ Q := by
  refine e_if (P := ¬ y0 = 0) q_162 rfl m_c1 (fun c => ?_) (fun c => ?_)
  · replace h := h.1 c
    refine e_iinc (ls' := [some (.inr (some 60)), some (.inl x1), some (.inl (x2 + 1)), o3, o4]) q_162 rfl rfl rfl ?_
    refine e_goto q_162 rfl ?_
    exact h
  · replace h := h.2 c
    refine e_load q_162 rfl rfl rfl ?_
    refine e_getR q_162 rfl rfl rfl ?_
    refine e_load q_162 rfl rfl rfl ?_
    refine e_getI q_162 rfl rfl rfl ?_
    refine e_load q_162 rfl rfl rfl ?_
    obtain ⟨j1, hjj1, hlj1, h⟩ := h
    refine e_iast q_162 rfl rfl (by decide) hjj1 hlj1 ?_
    refine e_load q_162 rfl rfl rfl ?_
    refine e_getR q_162 rfl rfl rfl ?_
    refine e_push q_162 rfl ?_
    refine e_load q_162 rfl rfl rfl ?_
    refine e_getI q_162 rfl rfl rfl ?_
    refine e_bin (r := 2 * ((up σ 67 j1 x2) 60 9)) q_162 rfl rfl ?_
    refine e_load q_162 rfl rfl rfl ?_
    refine e_load q_162 rfl rfl rfl ?_
    refine e_push q_162 rfl ?_
    exact e_virt q_162 rfl rfl (Nat.le_of_ble_eq_true rfl) rfl rfl (Nat.le_of_ble_eq_true rfl) rfl h
theorem g_162_81 {S : Nat × (Nat → Int32)} {d : Nat} {σ : Mem} {Q : MQ1} {x1 : Int32} {x2 : Int32} {o3 : Option MV} {o4 : Option MV}  (h : ((x2 = 0 → Ec S d 163 [.inr (some 60), .inr (some 68)] σ (fun rv σ' => Ev S (d + 1) 162 120 [some (.inr (some 60)), some (.inl x1), some (.inl x2), o3, o4] (rv ++ []) σ' Q)) ∧ (¬ (x2 = 0) → Ec S d 161 [.inr (some 60), .inl x1] σ (fun rv σ' => Ev S (d + 1) 162 86 [some (.inr (some 60)), some (.inl x1), some (.inl x2), o3, o4] (rv ++ []) σ' Q)))) : Ev S (d + 1) 162 81 [some (.inr (some 60)), some (.inl x1), some (.inl x2), o3, o4] [] σ Q := by
  refine e_load q_162 rfl rfl rfl ?_
  refine e_if (P := x2 = 0) q_162 rfl m_c0 (fun c => ?_) (fun c => ?_)
  · replace h := h.1 c
    refine e_load q_162 rfl rfl rfl ?_
    refine e_load q_162 rfl rfl rfl ?_
    refine e_getR q_162 rfl rfl rfl ?_
    exact e_virt q_162 rfl rfl (Nat.le_of_ble_eq_true rfl) rfl rfl (Nat.le_of_ble_eq_true rfl) rfl h
  · replace h := h.2 c
    refine e_load q_162 rfl rfl rfl ?_
    refine e_load q_162 rfl rfl rfl ?_
    exact e_virt q_162 rfl rfl (Nat.le_of_ble_eq_true rfl) rfl rfl (Nat.le_of_ble_eq_true rfl) rfl h
theorem g_162_78 {S : Nat × (Nat → Int32)} {d : Nat} {σ : Mem} {Q : MQ1} {x1 : Int32} {o2 : Option MV} {x3 : Int32} {o4 : Option MV} {y0 : Int32}  (h : Ev S (d + 1) 162 66 [some (.inr (some 60)), some (.inl x1), some (.inl y0), some (.inl (x3 + 1)), o4] [] σ Q) : Ev S (d + 1) 162 78 [some (.inr (some 60)), some (.inl x1), o2, some (.inl x3), o4] [.inl y0] σ Q := by
  refine e_store (ls' := [some (.inr (some 60)), some (.inl x1), some (.inl y0), some (.inl x3), o4]) q_162 rfl (Nat.le_of_ble_eq_true rfl) rfl rfl ?_
  refine e_iinc (ls' := [some (.inr (some 60)), some (.inl x1), some (.inl y0), some (.inl (x3 + 1)), o4]) q_162 rfl rfl rfl ?_
  refine e_goto q_162 rfl ?_
  exact h
theorem g_162_31 {S : Nat × (Nat → Int32)} {d : Nat} {σ : Mem} {Q : MQ1} {x1 : Int32} {x2 : Int32} {o3 : Option MV} {o4 : Option MV} {y1 : Int32} {y2 : Int32}  (h : (∃ j1 : Nat, y1 = nI j1 ∧ j1 < 16 ∧ Ec S d 122 [.inr (some 60), .inl x2, .inl 7] (up σ 68 j1 y2) (fun rv σ' => Ev S (d + 1) 162 44 [some (.inr (some 60)), some (.inl x1), some (.inl x2), o3, o4] (rv ++ [.inl ((2 * ((up σ 68 j1 y2) 60 9)) + 1), .inr (some 68)]) σ' Q))) : Ev S (d + 1) 162 31 [some (.inr (some 60)), some (.inl x1), some (.inl x2), o3, o4] [.inl y2, .inl y1, .inr (some 68)] σ Q := by
  obtain ⟨j1, hjj1, hlj1, h⟩ := h
  refine e_iast q_162 rfl rfl (by decide) hjj1 hlj1 ?_
  refine e_load q_162 rfl rfl rfl ?_
  refine e_getR q_162 rfl rfl rfl ?_
  refine e_push q_162 rfl ?_
  refine e_load q_162 rfl rfl rfl ?_
  refine e_getI q_162 rfl rfl rfl ?_
  refine e_bin (r := 2 * ((up σ 68 j1 y2) 60 9)) q_162 rfl rfl ?_
  refine e_push q_162 rfl ?_
  refine e_bin (r := (2 * ((up σ 68 j1 y2) 60 9)) + 1) q_162 rfl rfl ?_
  refine e_load q_162 rfl rfl rfl ?_
  refine e_load q_162 rfl rfl rfl ?_
  refine e_push q_162 rfl ?_
  exact e_virt q_162 rfl rfl (Nat.le_of_ble_eq_true rfl) rfl rfl (Nat.le_of_ble_eq_true rfl) rfl h
theorem g_162_120 {S : Nat × (Nat → Int32)} {d : Nat} {σ : Mem} {Q : MQ1} {o0 : Option MV} {o1 : Option MV} {o2 : Option MV} {o3 : Option MV} {o4 : Option MV}  (h : Q [.inl 1] σ) : Ev S (d + 1) 162 120 [o0, o1, o2, o3, o4] [] σ Q := by
  refine e_push q_162 rfl ?_
  exact e_zreturn q_162 rfl rfl (by decide) h
theorem g_162_86 {S : Nat × (Nat → Int32)} {d : Nat} {σ : Mem} {Q : MQ1} {x1 : Int32} {o2 : Option MV} {o3 : Option MV} {o4 : Option MV}  (h : Ev S (d + 1) 162 91 [some (.inr (some 60)), some (.inl x1), o2, some (.inl ((σ 60 9) - 1)), o4] [] σ Q) : Ev S (d + 1) 162 86 [some (.inr (some 60)), some (.inl x1), o2, o3, o4] [] σ Q := by
  refine e_load q_162 rfl rfl rfl ?_
  refine e_getI q_162 rfl rfl rfl ?_
  refine e_push q_162 rfl ?_
  refine e_bin (r := (σ 60 9) - 1) q_162 rfl rfl ?_
  refine e_store (ls' := [some (.inr (some 60)), some (.inl x1), o2, some (.inl ((σ 60 9) - 1)), o4]) q_162 rfl (Nat.le_of_ble_eq_true rfl) rfl rfl ?_
  exact h
theorem g_162_44 {S : Nat × (Nat → Int32)} {d : Nat} {σ : Mem} {Q : MQ1} {x1 : Int32} {x2 : Int32} {o3 : Option MV} {o4 : Option MV} {y1 : Int32} {y2 : Int32}  (h : (∃ j1 : Nat, y1 = nI j1 ∧ j1 < 16 ∧ Ev S (d + 1) 162 5 [some (.inr (some 60)), some (.inl x1), some (.inl (x2 + 1)), o3, o4] [] (up (up σ 68 j1 y2) 60 9 (((up σ 68 j1 y2) 60 9) + 1)) Q)) : Ev S (d + 1) 162 44 [some (.inr (some 60)), some (.inl x1), some (.inl x2), o3, o4] [.inl y2, .inl y1, .inr (some 68)] σ Q := by
  obtain ⟨j1, hjj1, hlj1, h⟩ := h
  refine e_iast q_162 rfl rfl (by decide) hjj1 hlj1 ?_
  refine e_load q_162 rfl rfl rfl ?_
  refine e_dup q_162 rfl ?_
  refine e_getI q_162 rfl rfl rfl ?_
  refine e_push q_162 rfl ?_
  refine e_bin (r := ((up σ 68 j1 y2) 60 9) + 1) q_162 rfl rfl ?_
  refine e_putI q_162 rfl rfl rfl ?_
  refine e_iinc (ls' := [some (.inr (some 60)), some (.inl x1), some (.inl (x2 + 1)), o3, o4]) q_162 rfl rfl rfl ?_
  refine e_goto q_162 rfl ?_
  exact h
theorem g_162_91 {S : Nat × (Nat → Int32)} {d : Nat} {σ : Mem} {Q : MQ1} {x1 : Int32} {o2 : Option MV} {x3 : Int32} {o4 : Option MV}  (h : ((x3 < 0 → ((x3 < 0 → Ev S (d + 1) 162 81 [some (.inr (some 60)), some (.inl x1), some (.inl 0), some (.inl x3), o4] [] σ Q) ∧ (¬ (x3 < 0) → Ev S (d + 1) 162 81 [some (.inr (some 60)), some (.inl x1), some (.inl 1), some (.inl x3), o4] [] σ Q))) ∧ (¬ (x3 < 0) → (∃ j1 : Nat, x3 = nI j1 ∧ j1 < 8 ∧ Ec S d 158 [.inr (some 60), .inl (σ 67 j1)] σ (fun rv σ' => Ev S (d + 1) 162 99 [some (.inr (some 60)), some (.inl x1), o2, some (.inl x3), o4] (rv ++ []) σ' Q))))) : Ev S (d + 1) 162 91 [some (.inr (some 60)), some (.inl x1), o2, some (.inl x3), o4] [] σ Q := by
  refine e_load q_162 rfl rfl rfl ?_
  refine e_if (P := x3 < 0) q_162 rfl m_c2 (fun c => ?_) (fun c => ?_)
  · replace h := h.1 c
    refine e_load q_162 rfl rfl rfl ?_
    refine e_if (P := x3 < 0) q_162 rfl m_c2 (fun c => ?_) (fun c => ?_)
    · replace h := h.1 c
      refine e_push q_162 rfl ?_
      refine e_store (ls' := [some (.inr (some 60)), some (.inl x1), some (.inl 0), some (.inl x3), o4]) q_162 rfl (Nat.le_of_ble_eq_true rfl) rfl rfl ?_
      refine e_goto q_162 rfl ?_
      exact h
    · replace h := h.2 c
      refine e_push q_162 rfl ?_
      refine e_goto q_162 rfl ?_
      refine e_store (ls' := [some (.inr (some 60)), some (.inl x1), some (.inl 1), some (.inl x3), o4]) q_162 rfl (Nat.le_of_ble_eq_true rfl) rfl rfl ?_
      refine e_goto q_162 rfl ?_
      exact h
  · replace h := h.2 c
    refine e_load q_162 rfl rfl rfl ?_
    refine e_load q_162 rfl rfl rfl ?_
    refine e_getR q_162 rfl rfl rfl ?_
    refine e_load q_162 rfl rfl rfl ?_
    obtain ⟨j1, hjj1, hlj1, h⟩ := h
    refine e_iald q_162 rfl rfl (by decide) hjj1 hlj1 ?_
    exact e_virt q_162 rfl rfl (Nat.le_of_ble_eq_true rfl) rfl rfl (Nat.le_of_ble_eq_true rfl) rfl h
theorem g_162_99 {S : Nat × (Nat → Int32)} {d : Nat} {σ : Mem} {Q : MQ1} {x1 : Int32} {o2 : Option MV} {x3 : Int32} {o4 : Option MV} {y0 : Int32}  (h : (((¬ y0 = 0) → ((x3 < 0 → Ev S (d + 1) 162 81 [some (.inr (some 60)), some (.inl x1), some (.inl 0), some (.inl x3), o4] [] σ Q) ∧ (¬ (x3 < 0) → Ev S (d + 1) 162 81 [some (.inr (some 60)), some (.inl x1), some (.inl 1), some (.inl x3), o4] [] σ Q))) ∧ (¬ (¬ y0 = 0) → (∃ j1 : Nat, x3 = nI j1 ∧ j1 < 8 ∧ Ec S d 159 [.inr (some 60), .inl (σ 67 j1)] σ (fun rv σ' => Ev S (d + 1) 162 106 [some (.inr (some 60)), some (.inl x1), o2, some (.inl x3), o4] (rv ++ []) σ' Q))))) : Ev S (d + 1) 162 99 [some (.inr (some 60)), some (.inl x1), o2, some (.inl x3), o4] [.inl y0] σ Q := by
  refine e_if (P := ¬ y0 = 0) q_162 rfl m_c1 (fun c => ?_) (fun c => ?_)
  · replace h := h.1 c
    refine e_load q_162 rfl rfl rfl ?_
    refine e_if (P := x3 < 0) q_162 rfl m_c2 (fun c => ?_) (fun c => ?_)
    · replace h := h.1 c
      refine e_push q_162 rfl ?_
      refine e_store (ls' := [some (.inr (some 60)), some (.inl x1), some (.inl 0), some (.inl x3), o4]) q_162 rfl (Nat.le_of_ble_eq_true rfl) rfl rfl ?_
      refine e_goto q_162 rfl ?_
      exact h
    · replace h := h.2 c
      refine e_push q_162 rfl ?_
      refine e_goto q_162 rfl ?_
      refine e_store (ls' := [some (.inr (some 60)), some (.inl x1), some (.inl 1), some (.inl x3), o4]) q_162 rfl (Nat.le_of_ble_eq_true rfl) rfl rfl ?_
      refine e_goto q_162 rfl ?_
      exact h
  · replace h := h.2 c
    refine e_load q_162 rfl rfl rfl ?_
    refine e_load q_162 rfl rfl rfl ?_
    refine e_getR q_162 rfl rfl rfl ?_
    refine e_load q_162 rfl rfl rfl ?_
    obtain ⟨j1, hjj1, hlj1, h⟩ := h
    refine e_iald q_162 rfl rfl (by decide) hjj1 hlj1 ?_
    exact e_virt q_162 rfl rfl (Nat.le_of_ble_eq_true rfl) rfl rfl (Nat.le_of_ble_eq_true rfl) rfl h
theorem g_162_106 {S : Nat × (Nat → Int32)} {d : Nat} {σ : Mem} {Q : MQ1} {x1 : Int32} {o2 : Option MV} {x3 : Int32} {o4 : Option MV} {y0 : Int32}  (h : Ev S (d + 1) 162 91 [some (.inr (some 60)), some (.inl x1), o2, some (.inl (x3 + (-1))), some (.inl y0)] [] σ Q) : Ev S (d + 1) 162 106 [some (.inr (some 60)), some (.inl x1), o2, some (.inl x3), o4] [.inl y0] σ Q := by
  refine e_store (ls' := [some (.inr (some 60)), some (.inl x1), o2, some (.inl x3), some (.inl y0)]) q_162 rfl (Nat.le_of_ble_eq_true rfl) rfl rfl ?_
  refine e_iinc (ls' := [some (.inr (some 60)), some (.inl x1), o2, some (.inl (x3 + (-1))), some (.inl y0)]) q_162 rfl rfl rfl ?_
  refine e_goto q_162 rfl ?_
  exact h
theorem q_163 : m_code 163 = mc_163 := rfl
theorem g_163_0 {S : Nat × (Nat → Int32)} {d : Nat} {σ : Mem} {Q : MQ1} {p1 : Nat} (hp1 : m_sh[p1]? = some (.inr (.inl 16))) (h : Ev S (d + 1) 163 2 [some (.inr (some 60)), some (.inr (some p1)), some (.inl 0)] [] σ Q) : Ev S (d + 1) 163 0 [some (.inr (some 60)), some (.inr (some p1)), none] [] σ Q := by
  refine e_push q_163 rfl ?_
  refine e_store (ls' := [some (.inr (some 60)), some (.inr (some p1)), some (.inl 0)]) q_163 rfl (Nat.le_of_ble_eq_true rfl) rfl rfl ?_
  exact h
theorem g_163_2 {S : Nat × (Nat → Int32)} {d : Nat} {σ : Mem} {Q : MQ1} {p1 : Nat} {x2 : Int32} (hp1 : m_sh[p1]? = some (.inr (.inl 16))) (h : (((σ 60 9) ≤ x2 → Q [] σ) ∧ (¬ ((σ 60 9) ≤ x2) → (∃ j1 : Nat, x2 = nI j1 ∧ j1 < 8 ∧ (∃ j2 : Nat, 2 * x2 = nI j2 ∧ j2 < 16 ∧ Ec S d 123 [.inr (some 60), .inl (σ 67 j1), .inl 6, .inl (σ p1 j2)] σ (fun rv σ' => Ev S (d + 1) 163 18 [some (.inr (some 60)), some (.inr (some p1)), some (.inl x2)] (rv ++ []) σ' Q)))))) : Ev S (d + 1) 163 2 [some (.inr (some 60)), some (.inr (some p1)), some (.inl x2)] [] σ Q := by
  refine e_load q_163 rfl rfl rfl ?_
  refine e_load q_163 rfl rfl rfl ?_
  refine e_getI q_163 rfl rfl rfl ?_
  refine e_icmp (P := (σ 60 9) ≤ x2) q_163 rfl m_c3 (fun c => ?_) (fun c => ?_)
  · replace h := h.1 c
    exact e_return q_163 rfl rfl h
  · replace h := h.2 c
    refine e_load q_163 rfl rfl rfl ?_
    refine e_load q_163 rfl rfl rfl ?_
    refine e_getR q_163 rfl rfl rfl ?_
    refine e_load q_163 rfl rfl rfl ?_
    obtain ⟨j1, hjj1, hlj1, h⟩ := h
    refine e_iald q_163 rfl rfl (by decide) hjj1 hlj1 ?_
    refine e_push q_163 rfl ?_
    refine e_load q_163 rfl rfl rfl ?_
    refine e_push q_163 rfl ?_
    refine e_load q_163 rfl rfl rfl ?_
    refine e_bin (r := 2 * x2) q_163 rfl rfl ?_
    obtain ⟨j2, hjj2, hlj2, h⟩ := h
    refine e_iald q_163 rfl hp1 (by decide) hjj2 hlj2 ?_
    exact e_virt q_163 rfl rfl (Nat.le_of_ble_eq_true rfl) rfl rfl (Nat.le_of_ble_eq_true rfl) rfl h
theorem g_163_18 {S : Nat × (Nat → Int32)} {d : Nat} {σ : Mem} {Q : MQ1} {p1 : Nat} {x2 : Int32} (hp1 : m_sh[p1]? = some (.inr (.inl 16))) (h : (∃ j1 : Nat, x2 = nI j1 ∧ j1 < 8 ∧ (∃ j2 : Nat, (2 * x2) + 1 = nI j2 ∧ j2 < 16 ∧ Ec S d 123 [.inr (some 60), .inl (σ 67 j1), .inl 7, .inl (σ p1 j2)] σ (fun rv σ' => Ev S (d + 1) 163 32 [some (.inr (some 60)), some (.inr (some p1)), some (.inl x2)] (rv ++ []) σ' Q)))) : Ev S (d + 1) 163 18 [some (.inr (some 60)), some (.inr (some p1)), some (.inl x2)] [] σ Q := by
  refine e_load q_163 rfl rfl rfl ?_
  refine e_load q_163 rfl rfl rfl ?_
  refine e_getR q_163 rfl rfl rfl ?_
  refine e_load q_163 rfl rfl rfl ?_
  obtain ⟨j1, hjj1, hlj1, h⟩ := h
  refine e_iald q_163 rfl rfl (by decide) hjj1 hlj1 ?_
  refine e_push q_163 rfl ?_
  refine e_load q_163 rfl rfl rfl ?_
  refine e_push q_163 rfl ?_
  refine e_load q_163 rfl rfl rfl ?_
  refine e_bin (r := 2 * x2) q_163 rfl rfl ?_
  refine e_push q_163 rfl ?_
  refine e_bin (r := (2 * x2) + 1) q_163 rfl rfl ?_
  obtain ⟨j2, hjj2, hlj2, h⟩ := h
  refine e_iald q_163 rfl hp1 (by decide) hjj2 hlj2 ?_
  exact e_virt q_163 rfl rfl (Nat.le_of_ble_eq_true rfl) rfl rfl (Nat.le_of_ble_eq_true rfl) rfl h
theorem g_163_32 {S : Nat × (Nat → Int32)} {d : Nat} {σ : Mem} {Q : MQ1} {p1 : Nat} {x2 : Int32} (hp1 : m_sh[p1]? = some (.inr (.inl 16))) (h : Ev S (d + 1) 163 2 [some (.inr (some 60)), some (.inr (some p1)), some (.inl (x2 + 1))] [] σ Q) : Ev S (d + 1) 163 32 [some (.inr (some 60)), some (.inr (some p1)), some (.inl x2)] [] σ Q := by
  refine e_iinc (ls' := [some (.inr (some 60)), some (.inr (some p1)), some (.inl (x2 + 1))]) q_163 rfl rfl rfl ?_
  refine e_goto q_163 rfl ?_
  exact h
theorem q_164 : m_code 164 = mc_164 := rfl
theorem g_164_0 {S : Nat × (Nat → Int32)} {d : Nat} {σ : Mem} {Q : MQ1} {x1 : Int32}  (h : Ec S d 162 [.inr (some 60), .inl 0] σ (fun rv σ' => Ev S (d + 1) 164 3 [some (.inr (some 60)), some (.inl x1)] (rv ++ []) σ' Q)) : Ev S (d + 1) 164 0 [some (.inr (some 60)), some (.inl x1)] [] σ Q := by
  refine e_load q_164 rfl rfl rfl ?_
  refine e_push q_164 rfl ?_
  exact e_virt q_164 rfl rfl (Nat.le_of_ble_eq_true rfl) rfl rfl (Nat.le_of_ble_eq_true rfl) rfl h
theorem g_164_3 {S : Nat × (Nat → Int32)} {d : Nat} {σ : Mem} {Q : MQ1} {x1 : Int32} {y0 : Int32}  (h : (((¬ y0 = 0) → (((¬ (σ 60 12) = 0) → ((x1 = 0 → Q [.inl (σ 60 14)] σ) ∧ (¬ (x1 = 0) → Ec S d 126 [.inr (some 60)] σ (fun rv σ' => Ev S (d + 1) 164 19 [some (.inr (some 60)), some (.inl x1)] (rv ++ []) σ' Q)))) ∧ (¬ (¬ (σ 60 12) = 0) → Ec S d 118 [.inr (some 60), .inl (-100006)] σ (fun rv σ' => Ev S (d + 1) 164 14 [some (.inr (some 60)), some (.inl x1)] (rv ++ []) σ' Q)))) ∧ (¬ (¬ y0 = 0) → Ec S d 118 [.inr (some 60), .inl (-100008)] σ (fun rv σ' => Ev S (d + 1) 164 7 [some (.inr (some 60)), some (.inl x1)] (rv ++ []) σ' Q)))) : Ev S (d + 1) 164 3 [some (.inr (some 60)), some (.inl x1)] [.inl y0] σ Q := by
  refine e_if (P := ¬ y0 = 0) q_164 rfl m_c1 (fun c => ?_) (fun c => ?_)
  · replace h := h.1 c
    refine e_load q_164 rfl rfl rfl ?_
    refine e_getI q_164 rfl rfl rfl ?_
    refine e_if (P := ¬ (σ 60 12) = 0) q_164 rfl m_c1 (fun c => ?_) (fun c => ?_)
    · replace h := h.1 c
      refine e_load q_164 rfl rfl rfl ?_
      refine e_if (P := x1 = 0) q_164 rfl m_c0 (fun c => ?_) (fun c => ?_)
      · replace h := h.1 c
        refine e_load q_164 rfl rfl rfl ?_
        refine e_getI q_164 rfl rfl rfl ?_
        exact e_ireturn q_164 rfl rfl h
      · replace h := h.2 c
        refine e_load q_164 rfl rfl rfl ?_
        exact e_virt q_164 rfl rfl (Nat.le_of_ble_eq_true rfl) rfl rfl (Nat.le_of_ble_eq_true rfl) rfl h
    · replace h := h.2 c
      refine e_load q_164 rfl rfl rfl ?_
      refine e_push q_164 rfl ?_
      exact e_virt q_164 rfl rfl (Nat.le_of_ble_eq_true rfl) rfl rfl (Nat.le_of_ble_eq_true rfl) rfl h
  · replace h := h.2 c
    refine e_load q_164 rfl rfl rfl ?_
    refine e_push q_164 rfl ?_
    exact e_virt q_164 rfl rfl (Nat.le_of_ble_eq_true rfl) rfl rfl (Nat.le_of_ble_eq_true rfl) rfl h
theorem g_164_19 {S : Nat × (Nat → Int32)} {d : Nat} {σ : Mem} {Q : MQ1} {o1 : Option MV}  (h : Ec S d 163 [.inr (some 60), .inr (some 69)] σ (fun rv σ' => Ev S (d + 1) 164 23 [some (.inr (some 60)), o1] (rv ++ []) σ' Q)) : Ev S (d + 1) 164 19 [some (.inr (some 60)), o1] [] σ Q := by
  refine e_load q_164 rfl rfl rfl ?_
  refine e_load q_164 rfl rfl rfl ?_
  refine e_getR q_164 rfl rfl rfl ?_
  exact e_virt q_164 rfl rfl (Nat.le_of_ble_eq_true rfl) rfl rfl (Nat.le_of_ble_eq_true rfl) rfl h
theorem g_164_14 {S : Nat × (Nat → Int32)} {d : Nat} {σ : Mem} {Q : MQ1} {o0 : Option MV} {o1 : Option MV} {y0 : Int32}  (h : Q [.inl y0] σ) : Ev S (d + 1) 164 14 [o0, o1] [.inl y0] σ Q := by
  exact e_ireturn q_164 rfl rfl h
theorem g_164_7 {S : Nat × (Nat → Int32)} {d : Nat} {σ : Mem} {Q : MQ1} {o0 : Option MV} {o1 : Option MV} {y0 : Int32}  (h : Q [.inl y0] σ) : Ev S (d + 1) 164 7 [o0, o1] [.inl y0] σ Q := by
  exact e_ireturn q_164 rfl rfl h
theorem g_164_23 {S : Nat × (Nat → Int32)} {d : Nat} {σ : Mem} {Q : MQ1} {o1 : Option MV}  (h : Q [.inl (σ 60 14)] σ) : Ev S (d + 1) 164 23 [some (.inr (some 60)), o1] [] σ Q := by
  refine e_load q_164 rfl rfl rfl ?_
  refine e_getI q_164 rfl rfl rfl ?_
  exact e_ireturn q_164 rfl rfl h
theorem q_165 : m_code 165 = mc_165 := rfl
theorem g_165_0 {S : Nat × (Nat → Int32)} {d : Nat} {σ : Mem} {Q : MQ1}   (h : Ec S d 162 [.inr (some 60), .inl 0] σ (fun rv σ' => Ev S (d + 1) 165 3 [some (.inr (some 60))] (rv ++ []) σ' Q)) : Ev S (d + 1) 165 0 [some (.inr (some 60))] [] σ Q := by
  refine e_load q_165 rfl rfl rfl ?_
  refine e_push q_165 rfl ?_
  exact e_virt q_165 rfl rfl (Nat.le_of_ble_eq_true rfl) rfl rfl (Nat.le_of_ble_eq_true rfl) rfl h
theorem g_165_3 {S : Nat × (Nat → Int32)} {d : Nat} {σ : Mem} {Q : MQ1} {y0 : Int32}  (h : ((y0 = 0 → Ec S d 118 [.inr (some 60), .inl (-100008)] σ (fun rv σ' => Ev S (d + 1) 165 10 [some (.inr (some 60))] (rv ++ []) σ' Q)) ∧ (¬ (y0 = 0) → Q [.inl (σ 60 12)] σ))) : Ev S (d + 1) 165 3 [some (.inr (some 60))] [.inl y0] σ Q := by
  refine e_if (P := y0 = 0) q_165 rfl m_c0 (fun c => ?_) (fun c => ?_)
  · replace h := h.1 c
    refine e_load q_165 rfl rfl rfl ?_
    refine e_push q_165 rfl ?_
    exact e_virt q_165 rfl rfl (Nat.le_of_ble_eq_true rfl) rfl rfl (Nat.le_of_ble_eq_true rfl) rfl h
  · replace h := h.2 c
    refine e_load q_165 rfl rfl rfl ?_
    refine e_getI q_165 rfl rfl rfl ?_
    refine e_goto q_165 rfl ?_
    exact e_ireturn q_165 rfl rfl h
theorem g_165_10 {S : Nat × (Nat → Int32)} {d : Nat} {σ : Mem} {Q : MQ1} {o0 : Option MV} {y0 : Int32}  (h : Q [.inl y0] σ) : Ev S (d + 1) 165 10 [o0] [.inl y0] σ Q := by
  exact e_ireturn q_165 rfl rfl h
theorem q_166 : m_code 166 = mc_166 := rfl
theorem g_166_0 {S : Nat × (Nat → Int32)} {d : Nat} {σ : Mem} {Q : MQ1} {x1 : Int32}  (h : Ec S d 162 [.inr (some 60), .inl 1] σ (fun rv σ' => Ev S (d + 1) 166 3 [some (.inr (some 60)), some (.inl x1)] (rv ++ []) σ' Q)) : Ev S (d + 1) 166 0 [some (.inr (some 60)), some (.inl x1)] [] σ Q := by
  refine e_load q_166 rfl rfl rfl ?_
  refine e_push q_166 rfl ?_
  exact e_virt q_166 rfl rfl (Nat.le_of_ble_eq_true rfl) rfl rfl (Nat.le_of_ble_eq_true rfl) rfl h
theorem g_166_3 {S : Nat × (Nat → Int32)} {d : Nat} {σ : Mem} {Q : MQ1} {x1 : Int32} {y0 : Int32}  (h : (((¬ y0 = 0) → (((¬ (σ 60 12) = 0) → ((x1 = 0 → Q [.inl (σ 60 13)] σ) ∧ (¬ (x1 = 0) → Ec S d 126 [.inr (some 60)] σ (fun rv σ' => Ev S (d + 1) 166 19 [some (.inr (some 60)), some (.inl x1)] (rv ++ []) σ' Q)))) ∧ (¬ (¬ (σ 60 12) = 0) → Ec S d 118 [.inr (some 60), .inl (-100006)] σ (fun rv σ' => Ev S (d + 1) 166 14 [some (.inr (some 60)), some (.inl x1)] (rv ++ []) σ' Q)))) ∧ (¬ (¬ y0 = 0) → Ec S d 118 [.inr (some 60), .inl (-100008)] σ (fun rv σ' => Ev S (d + 1) 166 7 [some (.inr (some 60)), some (.inl x1)] (rv ++ []) σ' Q)))) : Ev S (d + 1) 166 3 [some (.inr (some 60)), some (.inl x1)] [.inl y0] σ Q := by
  refine e_if (P := ¬ y0 = 0) q_166 rfl m_c1 (fun c => ?_) (fun c => ?_)
  · replace h := h.1 c
    refine e_load q_166 rfl rfl rfl ?_
    refine e_getI q_166 rfl rfl rfl ?_
    refine e_if (P := ¬ (σ 60 12) = 0) q_166 rfl m_c1 (fun c => ?_) (fun c => ?_)
    · replace h := h.1 c
      refine e_load q_166 rfl rfl rfl ?_
      refine e_if (P := x1 = 0) q_166 rfl m_c0 (fun c => ?_) (fun c => ?_)
      · replace h := h.1 c
        refine e_load q_166 rfl rfl rfl ?_
        refine e_getI q_166 rfl rfl rfl ?_
        exact e_ireturn q_166 rfl rfl h
      · replace h := h.2 c
        refine e_load q_166 rfl rfl rfl ?_
        exact e_virt q_166 rfl rfl (Nat.le_of_ble_eq_true rfl) rfl rfl (Nat.le_of_ble_eq_true rfl) rfl h
    · replace h := h.2 c
      refine e_load q_166 rfl rfl rfl ?_
      refine e_push q_166 rfl ?_
      exact e_virt q_166 rfl rfl (Nat.le_of_ble_eq_true rfl) rfl rfl (Nat.le_of_ble_eq_true rfl) rfl h
  · replace h := h.2 c
    refine e_load q_166 rfl rfl rfl ?_
    refine e_push q_166 rfl ?_
    exact e_virt q_166 rfl rfl (Nat.le_of_ble_eq_true rfl) rfl rfl (Nat.le_of_ble_eq_true rfl) rfl h
theorem g_166_19 {S : Nat × (Nat → Int32)} {d : Nat} {σ : Mem} {Q : MQ1} {o1 : Option MV}  (h : Ec S d 163 [.inr (some 60), .inr (some 69)] σ (fun rv σ' => Ev S (d + 1) 166 23 [some (.inr (some 60)), o1] (rv ++ []) σ' Q)) : Ev S (d + 1) 166 19 [some (.inr (some 60)), o1] [] σ Q := by
  refine e_load q_166 rfl rfl rfl ?_
  refine e_load q_166 rfl rfl rfl ?_
  refine e_getR q_166 rfl rfl rfl ?_
  exact e_virt q_166 rfl rfl (Nat.le_of_ble_eq_true rfl) rfl rfl (Nat.le_of_ble_eq_true rfl) rfl h
theorem g_166_14 {S : Nat × (Nat → Int32)} {d : Nat} {σ : Mem} {Q : MQ1} {o0 : Option MV} {o1 : Option MV} {y0 : Int32}  (h : Q [.inl y0] σ) : Ev S (d + 1) 166 14 [o0, o1] [.inl y0] σ Q := by
  exact e_ireturn q_166 rfl rfl h
theorem g_166_7 {S : Nat × (Nat → Int32)} {d : Nat} {σ : Mem} {Q : MQ1} {o0 : Option MV} {o1 : Option MV} {y0 : Int32}  (h : Q [.inl y0] σ) : Ev S (d + 1) 166 7 [o0, o1] [.inl y0] σ Q := by
  exact e_ireturn q_166 rfl rfl h
theorem g_166_23 {S : Nat × (Nat → Int32)} {d : Nat} {σ : Mem} {Q : MQ1} {o1 : Option MV}  (h : Q [.inl (σ 60 13)] σ) : Ev S (d + 1) 166 23 [some (.inr (some 60)), o1] [] σ Q := by
  refine e_load q_166 rfl rfl rfl ?_
  refine e_getI q_166 rfl rfl rfl ?_
  exact e_ireturn q_166 rfl rfl h
theorem q_167 : m_code 167 = mc_167 := rfl
theorem g_167_0 {S : Nat × (Nat → Int32)} {d : Nat} {σ : Mem} {Q : MQ1} {x1 : Int32} {x2 : Int32}  (h : Ec S d 121 [.inl x1] σ (fun rv σ' => Ev S (d + 1) 167 2 [some (.inr (some 60)), some (.inl x1), some (.inl x2), none, none, none, none] (rv ++ []) σ' Q)) : Ev S (d + 1) 167 0 [some (.inr (some 60)), some (.inl x1), some (.inl x2), none, none, none, none] [] σ Q := by
  refine e_load q_167 rfl rfl rfl ?_
  exact e_stat q_167 rfl (Nat.le_of_ble_eq_true rfl) rfl rfl (Nat.le_of_ble_eq_true rfl) h
theorem g_167_2 {S : Nat × (Nat → Int32)} {d : Nat} {σ : Mem} {Q : MQ1} {x1 : Int32} {x2 : Int32} {o3 : Option MV} {o4 : Option MV} {o5 : Option MV} {o6 : Option MV} {y0 : Int32}  (h : (((¬ y0 = 0) → Ev S (d + 1) 167 11 [some (.inr (some 60)), some (.inl x1), some (.inl x2), some (.inl 0), some (.inl 0), o5, o6] [] σ Q) ∧ (¬ (¬ y0 = 0) → Ec S d 118 [.inr (some 60), .inl (-100001)] σ (fun rv σ' => Ev S (d + 1) 167 6 [some (.inr (some 60)), some (.inl x1), some (.inl x2), o3, o4, o5, o6] (rv ++ []) σ' Q)))) : Ev S (d + 1) 167 2 [some (.inr (some 60)), some (.inl x1), some (.inl x2), o3, o4, o5, o6] [.inl y0] σ Q := by
  refine e_if (P := ¬ y0 = 0) q_167 rfl m_c1 (fun c => ?_) (fun c => ?_)
  · replace h := h.1 c
    refine e_push q_167 rfl ?_
    refine e_store (ls' := [some (.inr (some 60)), some (.inl x1), some (.inl x2), some (.inl 0), o4, o5, o6]) q_167 rfl (Nat.le_of_ble_eq_true rfl) rfl rfl ?_
    refine e_push q_167 rfl ?_
    refine e_store (ls' := [some (.inr (some 60)), some (.inl x1), some (.inl x2), some (.inl 0), some (.inl 0), o5, o6]) q_167 rfl (Nat.le_of_ble_eq_true rfl) rfl rfl ?_
    exact h
  · replace h := h.2 c
    refine e_load q_167 rfl rfl rfl ?_
    refine e_push q_167 rfl ?_
    exact e_virt q_167 rfl rfl (Nat.le_of_ble_eq_true rfl) rfl rfl (Nat.le_of_ble_eq_true rfl) rfl h
theorem g_167_11 {S : Nat × (Nat → Int32)} {d : Nat} {σ : Mem} {Q : MQ1} {x1 : Int32} {x2 : Int32} {x3 : Int32} {x4 : Int32} {o5 : Option MV} {o6 : Option MV}  (h : (((σ 61 0) ≤ x4 → Ev S (d + 1) 167 39 [some (.inr (some 60)), some (.inl x1), some (.inl x2), some (.inl x3), some (.inl 0), some (.inl 0), some (.inl 0)] [] σ Q) ∧ (¬ ((σ 61 0) ≤ x4) → Ec S d 122 [.inr (some 60), .inl x4, .inl 6] σ (fun rv σ' => Ev S (d + 1) 167 22 [some (.inr (some 60)), some (.inl x1), some (.inl x2), some (.inl x3), some (.inl x4), o5, o6] (rv ++ [.inl x3]) σ' Q)))) : Ev S (d + 1) 167 11 [some (.inr (some 60)), some (.inl x1), some (.inl x2), some (.inl x3), some (.inl x4), o5, o6] [] σ Q := by
  refine e_load q_167 rfl rfl rfl ?_
  refine e_load q_167 rfl rfl rfl ?_
  refine e_getR q_167 rfl rfl rfl ?_
  refine e_push q_167 rfl ?_
  refine e_iald (j := 0) q_167 rfl rfl (by decide) (by decide +kernel) (by decide) ?_
  refine e_icmp (P := (σ 61 0) ≤ x4) q_167 rfl m_c3 (fun c => ?_) (fun c => ?_)
  · replace h := h.1 c
    refine e_push q_167 rfl ?_
    refine e_store (ls' := [some (.inr (some 60)), some (.inl x1), some (.inl x2), some (.inl x3), some (.inl 0), o5, o6]) q_167 rfl (Nat.le_of_ble_eq_true rfl) rfl rfl ?_
    refine e_push q_167 rfl ?_
    refine e_store (ls' := [some (.inr (some 60)), some (.inl x1), some (.inl x2), some (.inl x3), some (.inl 0), some (.inl 0), o6]) q_167 rfl (Nat.le_of_ble_eq_true rfl) rfl rfl ?_
    refine e_push q_167 rfl ?_
    refine e_store (ls' := [some (.inr (some 60)), some (.inl x1), some (.inl x2), some (.inl x3), some (.inl 0), some (.inl 0), some (.inl 0)]) q_167 rfl (Nat.le_of_ble_eq_true rfl) rfl rfl ?_
    exact h
  · replace h := h.2 c
    refine e_load q_167 rfl rfl rfl ?_
    refine e_load q_167 rfl rfl rfl ?_
    refine e_load q_167 rfl rfl rfl ?_
    refine e_push q_167 rfl ?_
    exact e_virt q_167 rfl rfl (Nat.le_of_ble_eq_true rfl) rfl rfl (Nat.le_of_ble_eq_true rfl) rfl h
theorem g_167_6 {S : Nat × (Nat → Int32)} {d : Nat} {σ : Mem} {Q : MQ1} {o0 : Option MV} {o1 : Option MV} {o2 : Option MV} {o3 : Option MV} {o4 : Option MV} {o5 : Option MV} {o6 : Option MV} {y0 : Int32}  (h : Q [.inl y0] σ) : Ev S (d + 1) 167 6 [o0, o1, o2, o3, o4, o5, o6] [.inl y0] σ Q := by
  exact e_ireturn q_167 rfl rfl h
theorem g_167_39 {S : Nat × (Nat → Int32)} {d : Nat} {σ : Mem} {Q : MQ1} {x1 : Int32} {x2 : Int32} {x3 : Int32} {x4 : Int32} {x5 : Int32} {x6 : Int32}  (h : (((σ 61 0) ≤ x6 → ((x2 = 0 → Q [.inl x4] σ) ∧ (¬ (x2 = 0) → Q [.inl x5] σ))) ∧ (¬ ((σ 61 0) ≤ x6) → (((¬ ((x3 >>> (x6 &&& 31)) &&& 1) = 1) → Ev S (d + 1) 167 39 [some (.inr (some 60)), some (.inl x1), some (.inl x2), some (.inl x3), some (.inl x4), some (.inl x5), some (.inl (x6 + 1))] [] σ Q) ∧ (¬ (¬ ((x3 >>> (x6 &&& 31)) &&& 1) = 1) → Ec S d 122 [.inr (some 60), .inl x6, .inl 6] σ (fun rv σ' => Ev S (d + 1) 167 56 [some (.inr (some 60)), some (.inl x1), some (.inl x2), some (.inl x3), some (.inl x4), some (.inl x5), some (.inl x6)] (rv ++ []) σ' Q)))))) : Ev S (d + 1) 167 39 [some (.inr (some 60)), some (.inl x1), some (.inl x2), some (.inl x3), some (.inl x4), some (.inl x5), some (.inl x6)] [] σ Q := by
  refine e_load q_167 rfl rfl rfl ?_
  refine e_load q_167 rfl rfl rfl ?_
  refine e_getR q_167 rfl rfl rfl ?_
  refine e_push q_167 rfl ?_
  refine e_iald (j := 0) q_167 rfl rfl (by decide) (by decide +kernel) (by decide) ?_
  refine e_icmp (P := (σ 61 0) ≤ x6) q_167 rfl m_c3 (fun c => ?_) (fun c => ?_)
  · replace h := h.1 c
    refine e_load q_167 rfl rfl rfl ?_
    refine e_if (P := x2 = 0) q_167 rfl m_c0 (fun c => ?_) (fun c => ?_)
    · replace h := h.1 c
      refine e_load q_167 rfl rfl rfl ?_
      exact e_ireturn q_167 rfl rfl h
    · replace h := h.2 c
      refine e_load q_167 rfl rfl rfl ?_
      refine e_goto q_167 rfl ?_
      exact e_ireturn q_167 rfl rfl h
  · replace h := h.2 c
    refine e_load q_167 rfl rfl rfl ?_
    refine e_load q_167 rfl rfl rfl ?_
    refine e_bin (r := x3 >>> (x6 &&& 31)) q_167 rfl rfl ?_
    refine e_push q_167 rfl ?_
    refine e_bin (r := (x3 >>> (x6 &&& 31)) &&& 1) q_167 rfl rfl ?_
    refine e_push q_167 rfl ?_
    refine e_icmp (P := ¬ ((x3 >>> (x6 &&& 31)) &&& 1) = 1) q_167 rfl m_c1 (fun c => ?_) (fun c => ?_)
    · replace h := h.1 c
      refine e_iinc (ls' := [some (.inr (some 60)), some (.inl x1), some (.inl x2), some (.inl x3), some (.inl x4), some (.inl x5), some (.inl (x6 + 1))]) q_167 rfl rfl rfl ?_
      refine e_goto q_167 rfl ?_
      exact h
    · replace h := h.2 c
      refine e_load q_167 rfl rfl rfl ?_
      refine e_load q_167 rfl rfl rfl ?_
      refine e_push q_167 rfl ?_
      exact e_virt q_167 rfl rfl (Nat.le_of_ble_eq_true rfl) rfl rfl (Nat.le_of_ble_eq_true rfl) rfl h
theorem g_167_22 {S : Nat × (Nat → Int32)} {d : Nat} {σ : Mem} {Q : MQ1} {x1 : Int32} {x2 : Int32} {o3 : Option MV} {x4 : Int32} {o5 : Option MV} {o6 : Option MV} {y0 : Int32} {y1 : Int32}  (h : ((y1 < x1 → Ev S (d + 1) 167 11 [some (.inr (some 60)), some (.inl x1), some (.inl x2), some (.inl (y0 ||| 0)), some (.inl (x4 + 1)), o5, o6] [] σ Q) ∧ (¬ (y1 < x1) → Ec S d 130 [.inr (some 60), .inl x4] σ (fun rv σ' => Ev S (d + 1) 167 27 [some (.inr (some 60)), some (.inl x1), some (.inl x2), o3, some (.inl x4), o5, o6] (rv ++ [.inl y0]) σ' Q)))) : Ev S (d + 1) 167 22 [some (.inr (some 60)), some (.inl x1), some (.inl x2), o3, some (.inl x4), o5, o6] [.inl y1, .inl y0] σ Q := by
  refine e_load q_167 rfl rfl rfl ?_
  refine e_icmp (P := y1 < x1) q_167 rfl m_c2 (fun c => ?_) (fun c => ?_)
  · replace h := h.1 c
    refine e_push q_167 rfl ?_
    refine e_bin (r := y0 ||| 0) q_167 rfl rfl ?_
    refine e_store (ls' := [some (.inr (some 60)), some (.inl x1), some (.inl x2), some (.inl (y0 ||| 0)), some (.inl x4), o5, o6]) q_167 rfl (Nat.le_of_ble_eq_true rfl) rfl rfl ?_
    refine e_iinc (ls' := [some (.inr (some 60)), some (.inl x1), some (.inl x2), some (.inl (y0 ||| 0)), some (.inl (x4 + 1)), o5, o6]) q_167 rfl rfl rfl ?_
    refine e_goto q_167 rfl ?_
    exact h
  · replace h := h.2 c
    refine e_load q_167 rfl rfl rfl ?_
    refine e_load q_167 rfl rfl rfl ?_
    exact e_virt q_167 rfl rfl (Nat.le_of_ble_eq_true rfl) rfl rfl (Nat.le_of_ble_eq_true rfl) rfl h
theorem g_167_56 {S : Nat × (Nat → Int32)} {d : Nat} {σ : Mem} {Q : MQ1} {x1 : Int32} {x2 : Int32} {x3 : Int32} {x4 : Int32} {x5 : Int32} {x6 : Int32} {y0 : Int32}  (h : ((y0 < 0 → Ev S (d + 1) 167 39 [some (.inr (some 60)), some (.inl x1), some (.inl x2), some (.inl x3), some (.inl x4), some (.inl x5), some (.inl (x6 + 1))] [] σ Q) ∧ (¬ (y0 < 0) → Ec S d 122 [.inr (some 60), .inl x6, .inl 6] σ (fun rv σ' => Ev S (d + 1) 167 61 [some (.inr (some 60)), some (.inl x1), some (.inl x2), some (.inl x3), some (.inl x4), some (.inl x5), some (.inl x6)] (rv ++ []) σ' Q)))) : Ev S (d + 1) 167 56 [some (.inr (some 60)), some (.inl x1), some (.inl x2), some (.inl x3), some (.inl x4), some (.inl x5), some (.inl x6)] [.inl y0] σ Q := by
  refine e_if (P := y0 < 0) q_167 rfl m_c2 (fun c => ?_) (fun c => ?_)
  · replace h := h.1 c
    refine e_iinc (ls' := [some (.inr (some 60)), some (.inl x1), some (.inl x2), some (.inl x3), some (.inl x4), some (.inl x5), some (.inl (x6 + 1))]) q_167 rfl rfl rfl ?_
    refine e_goto q_167 rfl ?_
    exact h
  · replace h := h.2 c
    refine e_load q_167 rfl rfl rfl ?_
    refine e_load q_167 rfl rfl rfl ?_
    refine e_push q_167 rfl ?_
    exact e_virt q_167 rfl rfl (Nat.le_of_ble_eq_true rfl) rfl rfl (Nat.le_of_ble_eq_true rfl) rfl h
theorem g_167_27 {S : Nat × (Nat → Int32)} {d : Nat} {σ : Mem} {Q : MQ1} {x1 : Int32} {x2 : Int32} {o3 : Option MV} {x4 : Int32} {o5 : Option MV} {o6 : Option MV} {y0 : Int32} {y1 : Int32}  (h : Ev S (d + 1) 167 11 [some (.inr (some 60)), some (.inl x1), some (.inl x2), some (.inl (y0 ||| y1)), some (.inl (x4 + 1)), o5, o6] [] σ Q) : Ev S (d + 1) 167 27 [some (.inr (some 60)), some (.inl x1), some (.inl x2), o3, some (.inl x4), o5, o6] [.inl y1, .inl y0] σ Q := by
  refine e_goto q_167 rfl ?_
  refine e_bin (r := y0 ||| y1) q_167 rfl rfl ?_
  refine e_store (ls' := [some (.inr (some 60)), some (.inl x1), some (.inl x2), some (.inl (y0 ||| y1)), some (.inl x4), o5, o6]) q_167 rfl (Nat.le_of_ble_eq_true rfl) rfl rfl ?_
  refine e_iinc (ls' := [some (.inr (some 60)), some (.inl x1), some (.inl x2), some (.inl (y0 ||| y1)), some (.inl (x4 + 1)), o5, o6]) q_167 rfl rfl rfl ?_
  refine e_goto q_167 rfl ?_
  exact h
theorem g_167_61 {S : Nat × (Nat → Int32)} {d : Nat} {σ : Mem} {Q : MQ1} {x1 : Int32} {x2 : Int32} {x3 : Int32} {x4 : Int32} {x5 : Int32} {x6 : Int32} {y0 : Int32}  (h : ((x1 ≤ y0 → Ev S (d + 1) 167 39 [some (.inr (some 60)), some (.inl x1), some (.inl x2), some (.inl x3), some (.inl x4), some (.inl x5), some (.inl (x6 + 1))] [] σ Q) ∧ (¬ (x1 ≤ y0) → Ec S d 122 [.inr (some 60), .inl x6, .inl 1] σ (fun rv σ' => Ev S (d + 1) 167 74 [some (.inr (some 60)), some (.inl x1), some (.inl x2), some (.inl x3), some (.inl (x4 ||| (1 <<< (x6 &&& 31)))), some (.inl x5), some (.inl x6)] (rv ++ [.inl x5]) σ' Q)))) : Ev S (d + 1) 167 61 [some (.inr (some 60)), some (.inl x1), some (.inl x2), some (.inl x3), some (.inl x4), some (.inl x5), some (.inl x6)] [.inl y0] σ Q := by
  refine e_load q_167 rfl rfl rfl ?_
  refine e_icmp (P := x1 ≤ y0) q_167 rfl m_c3 (fun c => ?_) (fun c => ?_)
  · replace h := h.1 c
    refine e_iinc (ls' := [some (.inr (some 60)), some (.inl x1), some (.inl x2), some (.inl x3), some (.inl x4), some (.inl x5), some (.inl (x6 + 1))]) q_167 rfl rfl rfl ?_
    refine e_goto q_167 rfl ?_
    exact h
  · replace h := h.2 c
    refine e_load q_167 rfl rfl rfl ?_
    refine e_push q_167 rfl ?_
    refine e_load q_167 rfl rfl rfl ?_
    refine e_bin (r := 1 <<< (x6 &&& 31)) q_167 rfl rfl ?_
    refine e_bin (r := x4 ||| (1 <<< (x6 &&& 31))) q_167 rfl rfl ?_
    refine e_store (ls' := [some (.inr (some 60)), some (.inl x1), some (.inl x2), some (.inl x3), some (.inl (x4 ||| (1 <<< (x6 &&& 31)))), some (.inl x5), some (.inl x6)]) q_167 rfl (Nat.le_of_ble_eq_true rfl) rfl rfl ?_
    refine e_load q_167 rfl rfl rfl ?_
    refine e_load q_167 rfl rfl rfl ?_
    refine e_load q_167 rfl rfl rfl ?_
    refine e_push q_167 rfl ?_
    exact e_virt q_167 rfl rfl (Nat.le_of_ble_eq_true rfl) rfl rfl (Nat.le_of_ble_eq_true rfl) rfl h
theorem g_167_74 {S : Nat × (Nat → Int32)} {d : Nat} {σ : Mem} {Q : MQ1} {x1 : Int32} {x2 : Int32} {x3 : Int32} {x4 : Int32} {o5 : Option MV} {x6 : Int32} {y0 : Int32} {y1 : Int32}  (h : Ev S (d + 1) 167 39 [some (.inr (some 60)), some (.inl x1), some (.inl x2), some (.inl x3), some (.inl x4), some (.inl (y0 + y1)), some (.inl (x6 + 1))] [] σ Q) : Ev S (d + 1) 167 74 [some (.inr (some 60)), some (.inl x1), some (.inl x2), some (.inl x3), some (.inl x4), o5, some (.inl x6)] [.inl y1, .inl y0] σ Q := by
  refine e_bin (r := y0 + y1) q_167 rfl rfl ?_
  refine e_store (ls' := [some (.inr (some 60)), some (.inl x1), some (.inl x2), some (.inl x3), some (.inl x4), some (.inl (y0 + y1)), some (.inl x6)]) q_167 rfl (Nat.le_of_ble_eq_true rfl) rfl rfl ?_
  refine e_iinc (ls' := [some (.inr (some 60)), some (.inl x1), some (.inl x2), some (.inl x3), some (.inl x4), some (.inl (y0 + y1)), some (.inl (x6 + 1))]) q_167 rfl rfl rfl ?_
  refine e_goto q_167 rfl ?_
  exact h
theorem q_168 : m_code 168 = mc_168 := rfl
theorem g_168_0 {S : Nat × (Nat → Int32)} {d : Nat} {σ : Mem} {Q : MQ1} {x1 : Int32}  (h : Ec S d 124 [.inr (some 60), .inl x1] σ (fun rv σ' => Ev S (d + 1) 168 3 [some (.inr (some 60)), some (.inl x1)] (rv ++ []) σ' Q)) : Ev S (d + 1) 168 0 [some (.inr (some 60)), some (.inl x1)] [] σ Q := by
  refine e_load q_168 rfl rfl rfl ?_
  refine e_load q_168 rfl rfl rfl ?_
  exact e_virt q_168 rfl rfl (Nat.le_of_ble_eq_true rfl) rfl rfl (Nat.le_of_ble_eq_true rfl) rfl h
theorem g_168_3 {S : Nat × (Nat → Int32)} {d : Nat} {σ : Mem} {Q : MQ1} {x1 : Int32} {y0 : Int32}  (h : (((¬ y0 = 0) → Q [.inl 1] σ) ∧ (¬ (¬ y0 = 0) → Ec S d 122 [.inr (some 60), .inl x1, .inl 6] σ (fun rv σ' => Ev S (d + 1) 168 8 [some (.inr (some 60)), some (.inl x1)] (rv ++ []) σ' Q)))) : Ev S (d + 1) 168 3 [some (.inr (some 60)), some (.inl x1)] [.inl y0] σ Q := by
  refine e_if (P := ¬ y0 = 0) q_168 rfl m_c1 (fun c => ?_) (fun c => ?_)
  · replace h := h.1 c
    refine e_push q_168 rfl ?_
    refine e_goto q_168 rfl ?_
    exact e_zreturn q_168 rfl rfl (by decide) h
  · replace h := h.2 c
    refine e_load q_168 rfl rfl rfl ?_
    refine e_load q_168 rfl rfl rfl ?_
    refine e_push q_168 rfl ?_
    exact e_virt q_168 rfl rfl (Nat.le_of_ble_eq_true rfl) rfl rfl (Nat.le_of_ble_eq_true rfl) rfl h
theorem g_168_8 {S : Nat × (Nat → Int32)} {d : Nat} {σ : Mem} {Q : MQ1} {o0 : Option MV} {o1 : Option MV} {y0 : Int32}  (h : ((y0 < 0 → Q [.inl 0] σ) ∧ (¬ (y0 < 0) → Q [.inl 1] σ))) : Ev S (d + 1) 168 8 [o0, o1] [.inl y0] σ Q := by
  refine e_if (P := y0 < 0) q_168 rfl m_c2 (fun c => ?_) (fun c => ?_)
  · replace h := h.1 c
    refine e_push q_168 rfl ?_
    exact e_zreturn q_168 rfl rfl (by decide) h
  · replace h := h.2 c
    refine e_push q_168 rfl ?_
    refine e_goto q_168 rfl ?_
    exact e_zreturn q_168 rfl rfl (by decide) h
theorem q_169 : m_code 169 = mc_169 := rfl
theorem g_169_0 {S : Nat × (Nat → Int32)} {d : Nat} {σ : Mem} {Q : MQ1} {x1 : Int32}  (h : Ev S (d + 1) 169 4 [some (.inr (some 60)), some (.inl x1), some (.inl 0), some (.inl 0)] [] σ Q) : Ev S (d + 1) 169 0 [some (.inr (some 60)), some (.inl x1), none, none] [] σ Q := by
  refine e_push q_169 rfl ?_
  refine e_store (ls' := [some (.inr (some 60)), some (.inl x1), some (.inl 0), none]) q_169 rfl (Nat.le_of_ble_eq_true rfl) rfl rfl ?_
  refine e_push q_169 rfl ?_
  refine e_store (ls' := [some (.inr (some 60)), some (.inl x1), some (.inl 0), some (.inl 0)]) q_169 rfl (Nat.le_of_ble_eq_true rfl) rfl rfl ?_
  exact h
theorem g_169_4 {S : Nat × (Nat → Int32)} {d : Nat} {σ : Mem} {Q : MQ1} {x1 : Int32} {x2 : Int32} {x3 : Int32}  (h : (((σ 61 0) ≤ x3 → ((x1 = 0 → Q [.inl x2] σ) ∧ (¬ (x1 = 0) → Q [.inl (65535 &&& (x2 ^^^ (-1)))] σ))) ∧ (¬ ((σ 61 0) ≤ x3) → Ec S d 168 [.inr (some 60), .inl x3] σ (fun rv σ' => Ev S (d + 1) 169 14 [some (.inr (some 60)), some (.inl x1), some (.inl x2), some (.inl x3)] (rv ++ [.inl x2]) σ' Q)))) : Ev S (d + 1) 169 4 [some (.inr (some 60)), some (.inl x1), some (.inl x2), some (.inl x3)] [] σ Q := by
  refine e_load q_169 rfl rfl rfl ?_
  refine e_load q_169 rfl rfl rfl ?_
  refine e_getR q_169 rfl rfl rfl ?_
  refine e_push q_169 rfl ?_
  refine e_iald (j := 0) q_169 rfl rfl (by decide) (by decide +kernel) (by decide) ?_
  refine e_icmp (P := (σ 61 0) ≤ x3) q_169 rfl m_c3 (fun c => ?_) (fun c => ?_)
  · replace h := h.1 c
    refine e_load q_169 rfl rfl rfl ?_
    refine e_if (P := x1 = 0) q_169 rfl m_c0 (fun c => ?_) (fun c => ?_)
    · replace h := h.1 c
      refine e_load q_169 rfl rfl rfl ?_
      exact e_ireturn q_169 rfl rfl h
    · replace h := h.2 c
      refine e_push q_169 rfl ?_
      refine e_load q_169 rfl rfl rfl ?_
      refine e_push q_169 rfl ?_
      refine e_bin (r := x2 ^^^ (-1)) q_169 rfl rfl ?_
      refine e_bin (r := 65535 &&& (x2 ^^^ (-1))) q_169 rfl rfl ?_
      refine e_goto q_169 rfl ?_
      exact e_ireturn q_169 rfl rfl h
  · replace h := h.2 c
    refine e_load q_169 rfl rfl rfl ?_
    refine e_load q_169 rfl rfl rfl ?_
    refine e_load q_169 rfl rfl rfl ?_
    exact e_virt q_169 rfl rfl (Nat.le_of_ble_eq_true rfl) rfl rfl (Nat.le_of_ble_eq_true rfl) rfl h
theorem g_169_14 {S : Nat × (Nat → Int32)} {d : Nat} {σ : Mem} {Q : MQ1} {x1 : Int32} {o2 : Option MV} {x3 : Int32} {y0 : Int32} {y1 : Int32}  (h : ((y1 = 0 → Ev S (d + 1) 169 4 [some (.inr (some 60)), some (.inl x1), some (.inl (y0 ||| 0)), some (.inl (x3 + 1))] [] σ Q) ∧ (¬ (y1 = 0) → Ec S d 122 [.inr (some 60), .inl x3, .inl 4] σ (fun rv σ' => Ev S (d + 1) 169 19 [some (.inr (some 60)), some (.inl x1), o2, some (.inl x3)] (rv ++ [.inl y0]) σ' Q)))) : Ev S (d + 1) 169 14 [some (.inr (some 60)), some (.inl x1), o2, some (.inl x3)] [.inl y1, .inl y0] σ Q := by
  refine e_if (P := y1 = 0) q_169 rfl m_c0 (fun c => ?_) (fun c => ?_)
  · replace h := h.1 c
    refine e_push q_169 rfl ?_
    refine e_bin (r := y0 ||| 0) q_169 rfl rfl ?_
    refine e_store (ls' := [some (.inr (some 60)), some (.inl x1), some (.inl (y0 ||| 0)), some (.inl x3)]) q_169 rfl (Nat.le_of_ble_eq_true rfl) rfl rfl ?_
    refine e_iinc (ls' := [some (.inr (some 60)), some (.inl x1), some (.inl (y0 ||| 0)), some (.inl (x3 + 1))]) q_169 rfl rfl rfl ?_
    refine e_goto q_169 rfl ?_
    exact h
  · replace h := h.2 c
    refine e_load q_169 rfl rfl rfl ?_
    refine e_load q_169 rfl rfl rfl ?_
    refine e_push q_169 rfl ?_
    exact e_virt q_169 rfl rfl (Nat.le_of_ble_eq_true rfl) rfl rfl (Nat.le_of_ble_eq_true rfl) rfl h
theorem g_169_19 {S : Nat × (Nat → Int32)} {d : Nat} {σ : Mem} {Q : MQ1} {x1 : Int32} {o2 : Option MV} {x3 : Int32} {y0 : Int32} {y1 : Int32}  (h : Ev S (d + 1) 169 4 [some (.inr (some 60)), some (.inl x1), some (.inl (y0 ||| y1)), some (.inl (x3 + 1))] [] σ Q) : Ev S (d + 1) 169 19 [some (.inr (some 60)), some (.inl x1), o2, some (.inl x3)] [.inl y1, .inl y0] σ Q := by
  refine e_goto q_169 rfl ?_
  refine e_bin (r := y0 ||| y1) q_169 rfl rfl ?_
  refine e_store (ls' := [some (.inr (some 60)), some (.inl x1), some (.inl (y0 ||| y1)), some (.inl x3)]) q_169 rfl (Nat.le_of_ble_eq_true rfl) rfl rfl ?_
  refine e_iinc (ls' := [some (.inr (some 60)), some (.inl x1), some (.inl (y0 ||| y1)), some (.inl (x3 + 1))]) q_169 rfl rfl rfl ?_
  refine e_goto q_169 rfl ?_
  exact h
theorem q_170 : m_code 170 = mc_170 := rfl
theorem g_170_0 {S : Nat × (Nat → Int32)} {d : Nat} {σ : Mem} {Q : MQ1} {x1 : Int32}  (h : Ec S d 119 [.inl x1, .inl 0, .inl 15] σ (fun rv σ' => Ev S (d + 1) 170 4 [some (.inr (some 60)), some (.inl x1), none, none, none] (rv ++ []) σ' Q)) : Ev S (d + 1) 170 0 [some (.inr (some 60)), some (.inl x1), none, none, none] [] σ Q := by
  refine e_load q_170 rfl rfl rfl ?_
  refine e_push q_170 rfl ?_
  refine e_push q_170 rfl ?_
  exact e_stat q_170 rfl (Nat.le_of_ble_eq_true rfl) rfl rfl (Nat.le_of_ble_eq_true rfl) h
theorem g_170_4 {S : Nat × (Nat → Int32)} {d : Nat} {σ : Mem} {Q : MQ1} {x1 : Int32} {o2 : Option MV} {o3 : Option MV} {o4 : Option MV} {y0 : Int32}  (h : (((¬ y0 = 0) → Ev S (d + 1) 170 15 [some (.inr (some 60)), some (.inl x1), some (.inl (-1)), some (.inl 0), some (.inl 0)] [] σ Q) ∧ (¬ (¬ y0 = 0) → Ec S d 118 [.inr (some 60), .inl (-100001)] σ (fun rv σ' => Ev S (d + 1) 170 8 [some (.inr (some 60)), some (.inl x1), o2, o3, o4] (rv ++ []) σ' Q)))) : Ev S (d + 1) 170 4 [some (.inr (some 60)), some (.inl x1), o2, o3, o4] [.inl y0] σ Q := by
  refine e_if (P := ¬ y0 = 0) q_170 rfl m_c1 (fun c => ?_) (fun c => ?_)
  · replace h := h.1 c
    refine e_push q_170 rfl ?_
    refine e_store (ls' := [some (.inr (some 60)), some (.inl x1), some (.inl (-1)), o3, o4]) q_170 rfl (Nat.le_of_ble_eq_true rfl) rfl rfl ?_
    refine e_push q_170 rfl ?_
    refine e_store (ls' := [some (.inr (some 60)), some (.inl x1), some (.inl (-1)), some (.inl 0), o4]) q_170 rfl (Nat.le_of_ble_eq_true rfl) rfl rfl ?_
    refine e_push q_170 rfl ?_
    refine e_store (ls' := [some (.inr (some 60)), some (.inl x1), some (.inl (-1)), some (.inl 0), some (.inl 0)]) q_170 rfl (Nat.le_of_ble_eq_true rfl) rfl rfl ?_
    exact h
  · replace h := h.2 c
    refine e_load q_170 rfl rfl rfl ?_
    refine e_push q_170 rfl ?_
    exact e_virt q_170 rfl rfl (Nat.le_of_ble_eq_true rfl) rfl rfl (Nat.le_of_ble_eq_true rfl) rfl h
theorem g_170_15 {S : Nat × (Nat → Int32)} {d : Nat} {σ : Mem} {Q : MQ1} {x1 : Int32} {x2 : Int32} {x3 : Int32} {x4 : Int32}  (h : (((σ 61 0) ≤ x4 → (((¬ x3 = 1) → Ec S d 118 [.inr (some 60), .inl (-100006)] σ (fun rv σ' => Ev S (d + 1) 170 48 [some (.inr (some 60)), some (.inl x1), some (.inl x2), some (.inl x3), some (.inl x4)] (rv ++ []) σ' Q)) ∧ (¬ (¬ x3 = 1) → Q [.inl x2] σ))) ∧ (¬ ((σ 61 0) ≤ x4) → Ec S d 168 [.inr (some 60), .inl x4] σ (fun rv σ' => Ev S (d + 1) 170 24 [some (.inr (some 60)), some (.inl x1), some (.inl x2), some (.inl x3), some (.inl x4)] (rv ++ []) σ' Q)))) : Ev S (d + 1) 170 15 [some (.inr (some 60)), some (.inl x1), some (.inl x2), some (.inl x3), some (.inl x4)] [] σ Q := by
  refine e_load q_170 rfl rfl rfl ?_
  refine e_load q_170 rfl rfl rfl ?_
  refine e_getR q_170 rfl rfl rfl ?_
  refine e_push q_170 rfl ?_
  refine e_iald (j := 0) q_170 rfl rfl (by decide) (by decide +kernel) (by decide) ?_
  refine e_icmp (P := (σ 61 0) ≤ x4) q_170 rfl m_c3 (fun c => ?_) (fun c => ?_)
  · replace h := h.1 c
    refine e_load q_170 rfl rfl rfl ?_
    refine e_push q_170 rfl ?_
    refine e_icmp (P := ¬ x3 = 1) q_170 rfl m_c1 (fun c => ?_) (fun c => ?_)
    · replace h := h.1 c
      refine e_load q_170 rfl rfl rfl ?_
      refine e_push q_170 rfl ?_
      exact e_virt q_170 rfl rfl (Nat.le_of_ble_eq_true rfl) rfl rfl (Nat.le_of_ble_eq_true rfl) rfl h
    · replace h := h.2 c
      refine e_load q_170 rfl rfl rfl ?_
      refine e_goto q_170 rfl ?_
      exact e_ireturn q_170 rfl rfl h
  · replace h := h.2 c
    refine e_load q_170 rfl rfl rfl ?_
    refine e_load q_170 rfl rfl rfl ?_
    exact e_virt q_170 rfl rfl (Nat.le_of_ble_eq_true rfl) rfl rfl (Nat.le_of_ble_eq_true rfl) rfl h
theorem g_170_8 {S : Nat × (Nat → Int32)} {d : Nat} {σ : Mem} {Q : MQ1} {o0 : Option MV} {o1 : Option MV} {o2 : Option MV} {o3 : Option MV} {o4 : Option MV} {y0 : Int32}  (h : Q [.inl y0] σ) : Ev S (d + 1) 170 8 [o0, o1, o2, o3, o4] [.inl y0] σ Q := by
  exact e_ireturn q_170 rfl rfl h
theorem g_170_48 {S : Nat × (Nat → Int32)} {d : Nat} {σ : Mem} {Q : MQ1} {o0 : Option MV} {o1 : Option MV} {o2 : Option MV} {o3 : Option MV} {o4 : Option MV} {y0 : Int32}  (h : Q [.inl y0] σ) : Ev S (d + 1) 170 48 [o0, o1, o2, o3, o4] [.inl y0] σ Q := by
  exact e_ireturn q_170 rfl rfl h
theorem g_170_24 {S : Nat × (Nat → Int32)} {d : Nat} {σ : Mem} {Q : MQ1} {x1 : Int32} {x2 : Int32} {x3 : Int32} {x4 : Int32} {y0 : Int32}  (h : ((y0 = 0 → Ev S (d + 1) 170 15 [some (.inr (some 60)), some (.inl x1), some (.inl x2), some (.inl x3), some (.inl (x4 + 1))] [] σ Q) ∧ (¬ (y0 = 0) → Ec S d 122 [.inr (some 60), .inl x4, .inl 4] σ (fun rv σ' => Ev S (d + 1) 170 29 [some (.inr (some 60)), some (.inl x1), some (.inl x2), some (.inl x3), some (.inl x4)] (rv ++ []) σ' Q)))) : Ev S (d + 1) 170 24 [some (.inr (some 60)), some (.inl x1), some (.inl x2), some (.inl x3), some (.inl x4)] [.inl y0] σ Q := by
  refine e_if (P := y0 = 0) q_170 rfl m_c0 (fun c => ?_) (fun c => ?_)
  · replace h := h.1 c
    refine e_iinc (ls' := [some (.inr (some 60)), some (.inl x1), some (.inl x2), some (.inl x3), some (.inl (x4 + 1))]) q_170 rfl rfl rfl ?_
    refine e_goto q_170 rfl ?_
    exact h
  · replace h := h.2 c
    refine e_load q_170 rfl rfl rfl ?_
    refine e_load q_170 rfl rfl rfl ?_
    refine e_push q_170 rfl ?_
    exact e_virt q_170 rfl rfl (Nat.le_of_ble_eq_true rfl) rfl rfl (Nat.le_of_ble_eq_true rfl) rfl h
theorem g_170_29 {S : Nat × (Nat → Int32)} {d : Nat} {σ : Mem} {Q : MQ1} {x1 : Int32} {x2 : Int32} {x3 : Int32} {x4 : Int32} {y0 : Int32}  (h : (((¬ ((y0 >>> (x1 &&& 31)) &&& 1) = 1) → Ev S (d + 1) 170 15 [some (.inr (some 60)), some (.inl x1), some (.inl x2), some (.inl x3), some (.inl (x4 + 1))] [] σ Q) ∧ (¬ (¬ ((y0 >>> (x1 &&& 31)) &&& 1) = 1) → Ev S (d + 1) 170 15 [some (.inr (some 60)), some (.inl x1), some (.inl x4), some (.inl (x3 + 1)), some (.inl (x4 + 1))] [] σ Q))) : Ev S (d + 1) 170 29 [some (.inr (some 60)), some (.inl x1), some (.inl x2), some (.inl x3), some (.inl x4)] [.inl y0] σ Q := by
  refine e_load q_170 rfl rfl rfl ?_
  refine e_bin (r := y0 >>> (x1 &&& 31)) q_170 rfl rfl ?_
  refine e_push q_170 rfl ?_
  refine e_bin (r := (y0 >>> (x1 &&& 31)) &&& 1) q_170 rfl rfl ?_
  refine e_push q_170 rfl ?_
  refine e_icmp (P := ¬ ((y0 >>> (x1 &&& 31)) &&& 1) = 1) q_170 rfl m_c1 (fun c => ?_) (fun c => ?_)
  · replace h := h.1 c
    refine e_iinc (ls' := [some (.inr (some 60)), some (.inl x1), some (.inl x2), some (.inl x3), some (.inl (x4 + 1))]) q_170 rfl rfl rfl ?_
    refine e_goto q_170 rfl ?_
    exact h
  · replace h := h.2 c
    refine e_load q_170 rfl rfl rfl ?_
    refine e_store (ls' := [some (.inr (some 60)), some (.inl x1), some (.inl x4), some (.inl x3), some (.inl x4)]) q_170 rfl (Nat.le_of_ble_eq_true rfl) rfl rfl ?_
    refine e_iinc (ls' := [some (.inr (some 60)), some (.inl x1), some (.inl x4), some (.inl (x3 + 1)), some (.inl x4)]) q_170 rfl rfl rfl ?_
    refine e_iinc (ls' := [some (.inr (some 60)), some (.inl x1), some (.inl x4), some (.inl (x3 + 1)), some (.inl (x4 + 1))]) q_170 rfl rfl rfl ?_
    refine e_goto q_170 rfl ?_
    exact h
theorem q_171 : m_code 171 = mc_171 := rfl
theorem g_171_0 {S : Nat × (Nat → Int32)} {d : Nat} {σ : Mem} {Q : MQ1} {x1 : Int32} {x2 : Int32}  (h : Ec S d 120 [.inr (some 60), .inl x1] σ (fun rv σ' => Ev S (d + 1) 171 3 [some (.inr (some 60)), some (.inl x1), some (.inl x2)] (rv ++ []) σ' Q)) : Ev S (d + 1) 171 0 [some (.inr (some 60)), some (.inl x1), some (.inl x2)] [] σ Q := by
  refine e_load q_171 rfl rfl rfl ?_
  refine e_load q_171 rfl rfl rfl ?_
  exact e_virt q_171 rfl rfl (Nat.le_of_ble_eq_true rfl) rfl rfl (Nat.le_of_ble_eq_true rfl) rfl h
theorem g_171_3 {S : Nat × (Nat → Int32)} {d : Nat} {σ : Mem} {Q : MQ1} {x1 : Int32} {x2 : Int32} {y0 : Int32}  (h : ((y0 = 0 → Ec S d 118 [.inr (some 60), .inl (-100001)] σ (fun rv σ' => Ev S (d + 1) 171 12 [some (.inr (some 60)), some (.inl x1), some (.inl x2)] (rv ++ []) σ' Q)) ∧ (¬ (y0 = 0) → Ec S d 119 [.inl x2, .inl 1, .inl 100] σ (fun rv σ' => Ev S (d + 1) 171 8 [some (.inr (some 60)), some (.inl x1), some (.inl x2)] (rv ++ []) σ' Q)))) : Ev S (d + 1) 171 3 [some (.inr (some 60)), some (.inl x1), some (.inl x2)] [.inl y0] σ Q := by
  refine e_if (P := y0 = 0) q_171 rfl m_c0 (fun c => ?_) (fun c => ?_)
  · replace h := h.1 c
    refine e_load q_171 rfl rfl rfl ?_
    refine e_push q_171 rfl ?_
    exact e_virt q_171 rfl rfl (Nat.le_of_ble_eq_true rfl) rfl rfl (Nat.le_of_ble_eq_true rfl) rfl h
  · replace h := h.2 c
    refine e_load q_171 rfl rfl rfl ?_
    refine e_push q_171 rfl ?_
    refine e_push q_171 rfl ?_
    exact e_stat q_171 rfl (Nat.le_of_ble_eq_true rfl) rfl rfl (Nat.le_of_ble_eq_true rfl) h
theorem g_171_12 {S : Nat × (Nat → Int32)} {d : Nat} {σ : Mem} {Q : MQ1} {o0 : Option MV} {o1 : Option MV} {o2 : Option MV} {y0 : Int32}  (h : Q [.inl y0] σ) : Ev S (d + 1) 171 12 [o0, o1, o2] [.inl y0] σ Q := by
  exact e_ireturn q_171 rfl rfl h
theorem g_171_8 {S : Nat × (Nat → Int32)} {d : Nat} {σ : Mem} {Q : MQ1} {x1 : Int32} {x2 : Int32} {y0 : Int32}  (h : (((¬ y0 = 0) → Ec S d 122 [.inr (some 60), .inl x1, .inl 8] σ (fun rv σ' => Ev S (d + 1) 171 17 [some (.inr (some 60)), some (.inl x1), some (.inl x2)] (rv ++ []) σ' Q)) ∧ (¬ (¬ y0 = 0) → Ec S d 118 [.inr (some 60), .inl (-100001)] σ (fun rv σ' => Ev S (d + 1) 171 12 [some (.inr (some 60)), some (.inl x1), some (.inl x2)] (rv ++ []) σ' Q)))) : Ev S (d + 1) 171 8 [some (.inr (some 60)), some (.inl x1), some (.inl x2)] [.inl y0] σ Q := by
  refine e_if (P := ¬ y0 = 0) q_171 rfl m_c1 (fun c => ?_) (fun c => ?_)
  · replace h := h.1 c
    refine e_load q_171 rfl rfl rfl ?_
    refine e_load q_171 rfl rfl rfl ?_
    refine e_push q_171 rfl ?_
    exact e_virt q_171 rfl rfl (Nat.le_of_ble_eq_true rfl) rfl rfl (Nat.le_of_ble_eq_true rfl) rfl h
  · replace h := h.2 c
    refine e_load q_171 rfl rfl rfl ?_
    refine e_push q_171 rfl ?_
    exact e_virt q_171 rfl rfl (Nat.le_of_ble_eq_true rfl) rfl rfl (Nat.le_of_ble_eq_true rfl) rfl h
theorem g_171_17 {S : Nat × (Nat → Int32)} {d : Nat} {σ : Mem} {Q : MQ1} {x1 : Int32} {x2 : Int32} {y0 : Int32}  (h : (((y0 + x2) ≤ 1000 → Ec S d 126 [.inr (some 60)] σ (fun rv σ' => Ev S (d + 1) 171 27 [some (.inr (some 60)), some (.inl x1), some (.inl x2)] (rv ++ []) σ' Q)) ∧ (¬ ((y0 + x2) ≤ 1000) → Ec S d 118 [.inr (some 60), .inl (-100005)] σ (fun rv σ' => Ev S (d + 1) 171 24 [some (.inr (some 60)), some (.inl x1), some (.inl x2)] (rv ++ []) σ' Q)))) : Ev S (d + 1) 171 17 [some (.inr (some 60)), some (.inl x1), some (.inl x2)] [.inl y0] σ Q := by
  refine e_load q_171 rfl rfl rfl ?_
  refine e_bin (r := y0 + x2) q_171 rfl rfl ?_
  refine e_push q_171 rfl ?_
  refine e_icmp (P := (y0 + x2) ≤ 1000) q_171 rfl m_c5 (fun c => ?_) (fun c => ?_)
  · replace h := h.1 c
    refine e_load q_171 rfl rfl rfl ?_
    exact e_virt q_171 rfl rfl (Nat.le_of_ble_eq_true rfl) rfl rfl (Nat.le_of_ble_eq_true rfl) rfl h
  · replace h := h.2 c
    refine e_load q_171 rfl rfl rfl ?_
    refine e_push q_171 rfl ?_
    exact e_virt q_171 rfl rfl (Nat.le_of_ble_eq_true rfl) rfl rfl (Nat.le_of_ble_eq_true rfl) rfl h
theorem g_171_27 {S : Nat × (Nat → Int32)} {d : Nat} {σ : Mem} {Q : MQ1} {x1 : Int32} {x2 : Int32}  (h : Ec S d 122 [.inr (some 60), .inl x1, .inl 8] σ (fun rv σ' => Ev S (d + 1) 171 34 [some (.inr (some 60)), some (.inl x1), some (.inl x2)] (rv ++ [.inl 8, .inl x1, .inr (some 60)]) σ' Q)) : Ev S (d + 1) 171 27 [some (.inr (some 60)), some (.inl x1), some (.inl x2)] [] σ Q := by
  refine e_load q_171 rfl rfl rfl ?_
  refine e_load q_171 rfl rfl rfl ?_
  refine e_push q_171 rfl ?_
  refine e_load q_171 rfl rfl rfl ?_
  refine e_load q_171 rfl rfl rfl ?_
  refine e_push q_171 rfl ?_
  exact e_virt q_171 rfl rfl (Nat.le_of_ble_eq_true rfl) rfl rfl (Nat.le_of_ble_eq_true rfl) rfl h
theorem g_171_24 {S : Nat × (Nat → Int32)} {d : Nat} {σ : Mem} {Q : MQ1} {o0 : Option MV} {o1 : Option MV} {o2 : Option MV} {y0 : Int32}  (h : Q [.inl y0] σ) : Ev S (d + 1) 171 24 [o0, o1, o2] [.inl y0] σ Q := by
  exact e_ireturn q_171 rfl rfl h
theorem g_171_34 {S : Nat × (Nat → Int32)} {d : Nat} {σ : Mem} {Q : MQ1} {x1 : Int32} {x2 : Int32} {y1 : Int32} {y2 : Int32} {y3 : Int32}  (h : Ec S d 123 [.inr (some 60), .inl y1, .inl y2, .inl (y3 + x2)] σ (fun rv σ' => Ev S (d + 1) 171 37 [some (.inr (some 60)), some (.inl x1), some (.inl x2)] (rv ++ []) σ' Q)) : Ev S (d + 1) 171 34 [some (.inr (some 60)), some (.inl x1), some (.inl x2)] [.inl y3, .inl y2, .inl y1, .inr (some 60)] σ Q := by
  refine e_load q_171 rfl rfl rfl ?_
  refine e_bin (r := y3 + x2) q_171 rfl rfl ?_
  exact e_virt q_171 rfl rfl (Nat.le_of_ble_eq_true rfl) rfl rfl (Nat.le_of_ble_eq_true rfl) rfl h
theorem g_171_37 {S : Nat × (Nat → Int32)} {d : Nat} {σ : Mem} {Q : MQ1} {x1 : Int32} {o2 : Option MV}  (h : Ec S d 122 [.inr (some 60), .inl x1, .inl 8] σ (fun rv σ' => Ev S (d + 1) 171 41 [some (.inr (some 60)), some (.inl x1), o2] (rv ++ []) σ' Q)) : Ev S (d + 1) 171 37 [some (.inr (some 60)), some (.inl x1), o2] [] σ Q := by
  refine e_load q_171 rfl rfl rfl ?_
  refine e_load q_171 rfl rfl rfl ?_
  refine e_push q_171 rfl ?_
  exact e_virt q_171 rfl rfl (Nat.le_of_ble_eq_true rfl) rfl rfl (Nat.le_of_ble_eq_true rfl) rfl h
theorem g_171_41 {S : Nat × (Nat → Int32)} {d : Nat} {σ : Mem} {Q : MQ1} {o0 : Option MV} {o1 : Option MV} {o2 : Option MV} {y0 : Int32}  (h : Q [.inl y0] σ) : Ev S (d + 1) 171 41 [o0, o1, o2] [.inl y0] σ Q := by
  exact e_ireturn q_171 rfl rfl h
theorem q_172 : m_code 172 = mc_172 := rfl
theorem g_172_0 {S : Nat × (Nat → Int32)} {d : Nat} {σ : Mem} {Q : MQ1} {x1 : Int32} {x2 : Int32}  (h : Ev S (d + 1) 172 4 [some (.inr (some 60)), some (.inl x1), some (.inl x2), some (.inl 0), some (.inl 0)] [] σ Q) : Ev S (d + 1) 172 0 [some (.inr (some 60)), some (.inl x1), some (.inl x2), none, none] [] σ Q := by
  refine e_push q_172 rfl ?_
  refine e_store (ls' := [some (.inr (some 60)), some (.inl x1), some (.inl x2), some (.inl 0), none]) q_172 rfl (Nat.le_of_ble_eq_true rfl) rfl rfl ?_
  refine e_push q_172 rfl ?_
  refine e_store (ls' := [some (.inr (some 60)), some (.inl x1), some (.inl x2), some (.inl 0), some (.inl 0)]) q_172 rfl (Nat.le_of_ble_eq_true rfl) rfl rfl ?_
  exact h
theorem g_172_4 {S : Nat × (Nat → Int32)} {d : Nat} {σ : Mem} {Q : MQ1} {x1 : Int32} {x2 : Int32} {x3 : Int32} {x4 : Int32}  (h : ((x2 < x4 → Q [.inl x3] σ) ∧ (¬ (x2 < x4) → Ec S d 124 [.inr (some 60), .inl x1] σ (fun rv σ' => Ev S (d + 1) 172 10 [some (.inr (some 60)), some (.inl x1), some (.inl x2), some (.inl x3), some (.inl x4)] (rv ++ []) σ' Q)))) : Ev S (d + 1) 172 4 [some (.inr (some 60)), some (.inl x1), some (.inl x2), some (.inl x3), some (.inl x4)] [] σ Q := by
  refine e_load q_172 rfl rfl rfl ?_
  refine e_load q_172 rfl rfl rfl ?_
  refine e_icmp (P := x2 < x4) q_172 rfl m_c4 (fun c => ?_) (fun c => ?_)
  · replace h := h.1 c
    refine e_load q_172 rfl rfl rfl ?_
    exact e_ireturn q_172 rfl rfl h
  · replace h := h.2 c
    refine e_load q_172 rfl rfl rfl ?_
    refine e_load q_172 rfl rfl rfl ?_
    exact e_virt q_172 rfl rfl (Nat.le_of_ble_eq_true rfl) rfl rfl (Nat.le_of_ble_eq_true rfl) rfl h
theorem g_172_10 {S : Nat × (Nat → Int32)} {d : Nat} {σ : Mem} {Q : MQ1} {x1 : Int32} {x2 : Int32} {x3 : Int32} {x4 : Int32} {y0 : Int32}  (h : ((y0 = 0 → Ec S d 122 [.inr (some 60), .inl x1, .inl 6] σ (fun rv σ' => Ev S (d + 1) 172 27 [some (.inr (some 60)), some (.inl x1), some (.inl x2), some (.inl x3), some (.inl x4)] (rv ++ [.inl x3]) σ' Q)) ∧ (¬ (y0 = 0) → Ec S d 125 [.inr (some 60), .inl x4] σ (fun rv σ' => Ev S (d + 1) 172 15 [some (.inr (some 60)), some (.inl x1), some (.inl x2), some (.inl x3), some (.inl x4)] (rv ++ [.inl x3]) σ' Q)))) : Ev S (d + 1) 172 10 [some (.inr (some 60)), some (.inl x1), some (.inl x2), some (.inl x3), some (.inl x4)] [.inl y0] σ Q := by
  refine e_if (P := y0 = 0) q_172 rfl m_c0 (fun c => ?_) (fun c => ?_)
  · replace h := h.1 c
    refine e_load q_172 rfl rfl rfl ?_
    refine e_load q_172 rfl rfl rfl ?_
    refine e_load q_172 rfl rfl rfl ?_
    refine e_push q_172 rfl ?_
    exact e_virt q_172 rfl rfl (Nat.le_of_ble_eq_true rfl) rfl rfl (Nat.le_of_ble_eq_true rfl) rfl h
  · replace h := h.2 c
    refine e_load q_172 rfl rfl rfl ?_
    refine e_load q_172 rfl rfl rfl ?_
    refine e_load q_172 rfl rfl rfl ?_
    exact e_virt q_172 rfl rfl (Nat.le_of_ble_eq_true rfl) rfl rfl (Nat.le_of_ble_eq_true rfl) rfl h
theorem g_172_27 {S : Nat × (Nat → Int32)} {d : Nat} {σ : Mem} {Q : MQ1} {x1 : Int32} {x2 : Int32} {o3 : Option MV} {x4 : Int32} {y0 : Int32} {y1 : Int32}  (h : (((¬ y1 = x4) → Ec S d 122 [.inr (some 60), .inl x1, .inl 7] σ (fun rv σ' => Ev S (d + 1) 172 42 [some (.inr (some 60)), some (.inl x1), some (.inl x2), some (.inl (y0 + 0)), some (.inl x4)] (rv ++ [.inl (y0 + 0)]) σ' Q)) ∧ (¬ (¬ y1 = x4) → Ec S d 122 [.inr (some 60), .inl x1, .inl 1] σ (fun rv σ' => Ev S (d + 1) 172 33 [some (.inr (some 60)), some (.inl x1), some (.inl x2), o3, some (.inl x4)] (rv ++ [.inl y0]) σ' Q)))) : Ev S (d + 1) 172 27 [some (.inr (some 60)), some (.inl x1), some (.inl x2), o3, some (.inl x4)] [.inl y1, .inl y0] σ Q := by
  refine e_load q_172 rfl rfl rfl ?_
  refine e_icmp (P := ¬ y1 = x4) q_172 rfl m_c1 (fun c => ?_) (fun c => ?_)
  · replace h := h.1 c
    refine e_push q_172 rfl ?_
    refine e_bin (r := y0 + 0) q_172 rfl rfl ?_
    refine e_store (ls' := [some (.inr (some 60)), some (.inl x1), some (.inl x2), some (.inl (y0 + 0)), some (.inl x4)]) q_172 rfl (Nat.le_of_ble_eq_true rfl) rfl rfl ?_
    refine e_load q_172 rfl rfl rfl ?_
    refine e_load q_172 rfl rfl rfl ?_
    refine e_load q_172 rfl rfl rfl ?_
    refine e_push q_172 rfl ?_
    exact e_virt q_172 rfl rfl (Nat.le_of_ble_eq_true rfl) rfl rfl (Nat.le_of_ble_eq_true rfl) rfl h
  · replace h := h.2 c
    refine e_load q_172 rfl rfl rfl ?_
    refine e_load q_172 rfl rfl rfl ?_
    refine e_push q_172 rfl ?_
    exact e_virt q_172 rfl rfl (Nat.le_of_ble_eq_true rfl) rfl rfl (Nat.le_of_ble_eq_true rfl) rfl h
theorem g_172_15 {S : Nat × (Nat → Int32)} {d : Nat} {σ : Mem} {Q : MQ1} {x1 : Int32} {x2 : Int32} {o3 : Option MV} {x4 : Int32} {y0 : Int32} {y1 : Int32}  (h : ((y1 = 0 → Ev S (d + 1) 172 4 [some (.inr (some 60)), some (.inl x1), some (.inl x2), some (.inl (y0 + 1)), some (.inl (x4 + 1))] [] σ Q) ∧ (¬ (y1 = 0) → Ev S (d + 1) 172 4 [some (.inr (some 60)), some (.inl x1), some (.inl x2), some (.inl (y0 + 0)), some (.inl (x4 + 1))] [] σ Q))) : Ev S (d + 1) 172 15 [some (.inr (some 60)), some (.inl x1), some (.inl x2), o3, some (.inl x4)] [.inl y1, .inl y0] σ Q := by
  refine e_if (P := y1 = 0) q_172 rfl m_c0 (fun c => ?_) (fun c => ?_)
  · replace h := h.1 c
    refine e_push q_172 rfl ?_
    refine e_bin (r := y0 + 1) q_172 rfl rfl ?_
    refine e_store (ls' := [some (.inr (some 60)), some (.inl x1), some (.inl x2), some (.inl (y0 + 1)), some (.inl x4)]) q_172 rfl (Nat.le_of_ble_eq_true rfl) rfl rfl ?_
    refine e_goto q_172 rfl ?_
    refine e_iinc (ls' := [some (.inr (some 60)), some (.inl x1), some (.inl x2), some (.inl (y0 + 1)), some (.inl (x4 + 1))]) q_172 rfl rfl rfl ?_
    refine e_goto q_172 rfl ?_
    exact h
  · replace h := h.2 c
    refine e_push q_172 rfl ?_
    refine e_goto q_172 rfl ?_
    refine e_bin (r := y0 + 0) q_172 rfl rfl ?_
    refine e_store (ls' := [some (.inr (some 60)), some (.inl x1), some (.inl x2), some (.inl (y0 + 0)), some (.inl x4)]) q_172 rfl (Nat.le_of_ble_eq_true rfl) rfl rfl ?_
    refine e_goto q_172 rfl ?_
    refine e_iinc (ls' := [some (.inr (some 60)), some (.inl x1), some (.inl x2), some (.inl (y0 + 0)), some (.inl (x4 + 1))]) q_172 rfl rfl rfl ?_
    refine e_goto q_172 rfl ?_
    exact h
theorem g_172_42 {S : Nat × (Nat → Int32)} {d : Nat} {σ : Mem} {Q : MQ1} {x1 : Int32} {x2 : Int32} {o3 : Option MV} {x4 : Int32} {y0 : Int32} {y1 : Int32}  (h : (((¬ y1 = x4) → Ev S (d + 1) 172 4 [some (.inr (some 60)), some (.inl x1), some (.inl x2), some (.inl (y0 + 0)), some (.inl (x4 + 1))] [] σ Q) ∧ (¬ (¬ y1 = x4) → Ev S (d + 1) 172 4 [some (.inr (some 60)), some (.inl x1), some (.inl x2), some (.inl (y0 + 1)), some (.inl (x4 + 1))] [] σ Q))) : Ev S (d + 1) 172 42 [some (.inr (some 60)), some (.inl x1), some (.inl x2), o3, some (.inl x4)] [.inl y1, .inl y0] σ Q := by
  refine e_load q_172 rfl rfl rfl ?_
  refine e_icmp (P := ¬ y1 = x4) q_172 rfl m_c1 (fun c => ?_) (fun c => ?_)
  · replace h := h.1 c
    refine e_push q_172 rfl ?_
    refine e_bin (r := y0 + 0) q_172 rfl rfl ?_
    refine e_store (ls' := [some (.inr (some 60)), some (.inl x1), some (.inl x2), some (.inl (y0 + 0)), some (.inl x4)]) q_172 rfl (Nat.le_of_ble_eq_true rfl) rfl rfl ?_
    refine e_iinc (ls' := [some (.inr (some 60)), some (.inl x1), some (.inl x2), some (.inl (y0 + 0)), some (.inl (x4 + 1))]) q_172 rfl rfl rfl ?_
    refine e_goto q_172 rfl ?_
    exact h
  · replace h := h.2 c
    refine e_push q_172 rfl ?_
    refine e_goto q_172 rfl ?_
    refine e_bin (r := y0 + 1) q_172 rfl rfl ?_
    refine e_store (ls' := [some (.inr (some 60)), some (.inl x1), some (.inl x2), some (.inl (y0 + 1)), some (.inl x4)]) q_172 rfl (Nat.le_of_ble_eq_true rfl) rfl rfl ?_
    refine e_iinc (ls' := [some (.inr (some 60)), some (.inl x1), some (.inl x2), some (.inl (y0 + 1)), some (.inl (x4 + 1))]) q_172 rfl rfl rfl ?_
    refine e_goto q_172 rfl ?_
    exact h
theorem g_172_33 {S : Nat × (Nat → Int32)} {d : Nat} {σ : Mem} {Q : MQ1} {x1 : Int32} {x2 : Int32} {o3 : Option MV} {x4 : Int32} {y0 : Int32} {y1 : Int32}  (h : Ec S d 122 [.inr (some 60), .inl x1, .inl 7] σ (fun rv σ' => Ev S (d + 1) 172 42 [some (.inr (some 60)), some (.inl x1), some (.inl x2), some (.inl (y0 + y1)), some (.inl x4)] (rv ++ [.inl (y0 + y1)]) σ' Q)) : Ev S (d + 1) 172 33 [some (.inr (some 60)), some (.inl x1), some (.inl x2), o3, some (.inl x4)] [.inl y1, .inl y0] σ Q := by
  refine e_goto q_172 rfl ?_
  refine e_bin (r := y0 + y1) q_172 rfl rfl ?_
  refine e_store (ls' := [some (.inr (some 60)), some (.inl x1), some (.inl x2), some (.inl (y0 + y1)), some (.inl x4)]) q_172 rfl (Nat.le_of_ble_eq_true rfl) rfl rfl ?_
  refine e_load q_172 rfl rfl rfl ?_
  refine e_load q_172 rfl rfl rfl ?_
  refine e_load q_172 rfl rfl rfl ?_
  refine e_push q_172 rfl ?_
  exact e_virt q_172 rfl rfl (Nat.le_of_ble_eq_true rfl) rfl rfl (Nat.le_of_ble_eq_true rfl) rfl h
theorem q_173 : m_code 173 = mc_173 := rfl
theorem g_173_0 {S : Nat × (Nat → Int32)} {d : Nat} {σ : Mem} {Q : MQ1} {x1 : Int32} {x2 : Int32}  (h : Ec S d 120 [.inr (some 60), .inl x1] σ (fun rv σ' => Ev S (d + 1) 173 3 [some (.inr (some 60)), some (.inl x1), some (.inl x2)] (rv ++ []) σ' Q)) : Ev S (d + 1) 173 0 [some (.inr (some 60)), some (.inl x1), some (.inl x2)] [] σ Q := by
  refine e_load q_173 rfl rfl rfl ?_
  refine e_load q_173 rfl rfl rfl ?_
  exact e_virt q_173 rfl rfl (Nat.le_of_ble_eq_true rfl) rfl rfl (Nat.le_of_ble_eq_true rfl) rfl h
theorem g_173_3 {S : Nat × (Nat → Int32)} {d : Nat} {σ : Mem} {Q : MQ1} {x1 : Int32} {x2 : Int32} {y0 : Int32}  (h : ((y0 = 0 → Ec S d 118 [.inr (some 60), .inl (-100001)] σ (fun rv σ' => Ev S (d + 1) 173 15 [some (.inr (some 60)), some (.inl x1), some (.inl x2)] (rv ++ []) σ' Q)) ∧ (¬ (y0 = 0) → Ec S d 121 [.inl x2] σ (fun rv σ' => Ev S (d + 1) 173 6 [some (.inr (some 60)), some (.inl x1), some (.inl x2)] (rv ++ []) σ' Q)))) : Ev S (d + 1) 173 3 [some (.inr (some 60)), some (.inl x1), some (.inl x2)] [.inl y0] σ Q := by
  refine e_if (P := y0 = 0) q_173 rfl m_c0 (fun c => ?_) (fun c => ?_)
  · replace h := h.1 c
    refine e_load q_173 rfl rfl rfl ?_
    refine e_push q_173 rfl ?_
    exact e_virt q_173 rfl rfl (Nat.le_of_ble_eq_true rfl) rfl rfl (Nat.le_of_ble_eq_true rfl) rfl h
  · replace h := h.2 c
    refine e_load q_173 rfl rfl rfl ?_
    exact e_stat q_173 rfl (Nat.le_of_ble_eq_true rfl) rfl rfl (Nat.le_of_ble_eq_true rfl) h
theorem g_173_15 {S : Nat × (Nat → Int32)} {d : Nat} {σ : Mem} {Q : MQ1} {o0 : Option MV} {o1 : Option MV} {o2 : Option MV} {y0 : Int32}  (h : Q [.inl y0] σ) : Ev S (d + 1) 173 15 [o0, o1, o2] [.inl y0] σ Q := by
  exact e_ireturn q_173 rfl rfl h
theorem g_173_6 {S : Nat × (Nat → Int32)} {d : Nat} {σ : Mem} {Q : MQ1} {x1 : Int32} {x2 : Int32} {y0 : Int32}  (h : ((y0 = 0 → Ec S d 118 [.inr (some 60), .inl (-100001)] σ (fun rv σ' => Ev S (d + 1) 173 15 [some (.inr (some 60)), some (.inl x1), some (.inl x2)] (rv ++ []) σ' Q)) ∧ (¬ (y0 = 0) → Ec S d 172 [.inr (some 60), .inl x1, .inl x2] σ (fun rv σ' => Ev S (d + 1) 173 11 [some (.inr (some 60)), some (.inl x1), some (.inl x2)] (rv ++ []) σ' Q)))) : Ev S (d + 1) 173 6 [some (.inr (some 60)), some (.inl x1), some (.inl x2)] [.inl y0] σ Q := by
  refine e_if (P := y0 = 0) q_173 rfl m_c0 (fun c => ?_) (fun c => ?_)
  · replace h := h.1 c
    refine e_load q_173 rfl rfl rfl ?_
    refine e_push q_173 rfl ?_
    exact e_virt q_173 rfl rfl (Nat.le_of_ble_eq_true rfl) rfl rfl (Nat.le_of_ble_eq_true rfl) rfl h
  · replace h := h.2 c
    refine e_load q_173 rfl rfl rfl ?_
    refine e_load q_173 rfl rfl rfl ?_
    refine e_load q_173 rfl rfl rfl ?_
    exact e_virt q_173 rfl rfl (Nat.le_of_ble_eq_true rfl) rfl rfl (Nat.le_of_ble_eq_true rfl) rfl h
theorem g_173_11 {S : Nat × (Nat → Int32)} {d : Nat} {σ : Mem} {Q : MQ1} {o0 : Option MV} {o1 : Option MV} {o2 : Option MV} {y0 : Int32}  (h : Q [.inl y0] σ) : Ev S (d + 1) 173 11 [o0, o1, o2] [.inl y0] σ Q := by
  refine e_goto q_173 rfl ?_
  exact e_ireturn q_173 rfl rfl h
theorem q_174 : m_code 174 = mc_174 := rfl
theorem g_174_0 {S : Nat × (Nat → Int32)} {d : Nat} {σ : Mem} {Q : MQ1} {x1 : Int32}  (h : Ec S d 121 [.inl x1] σ (fun rv σ' => Ev S (d + 1) 174 2 [some (.inr (some 60)), some (.inl x1), none, none, none] (rv ++ []) σ' Q)) : Ev S (d + 1) 174 0 [some (.inr (some 60)), some (.inl x1), none, none, none] [] σ Q := by
  refine e_load q_174 rfl rfl rfl ?_
  exact e_stat q_174 rfl (Nat.le_of_ble_eq_true rfl) rfl rfl (Nat.le_of_ble_eq_true rfl) h
theorem g_174_2 {S : Nat × (Nat → Int32)} {d : Nat} {σ : Mem} {Q : MQ1} {x1 : Int32} {o2 : Option MV} {o3 : Option MV} {o4 : Option MV} {y0 : Int32}  (h : (((¬ y0 = 0) → Ev S (d + 1) 174 11 [some (.inr (some 60)), some (.inl x1), some (.inl 0), some (.inl 0), o4] [] σ Q) ∧ (¬ (¬ y0 = 0) → Ec S d 118 [.inr (some 60), .inl (-100001)] σ (fun rv σ' => Ev S (d + 1) 174 6 [some (.inr (some 60)), some (.inl x1), o2, o3, o4] (rv ++ []) σ' Q)))) : Ev S (d + 1) 174 2 [some (.inr (some 60)), some (.inl x1), o2, o3, o4] [.inl y0] σ Q := by
  refine e_if (P := ¬ y0 = 0) q_174 rfl m_c1 (fun c => ?_) (fun c => ?_)
  · replace h := h.1 c
    refine e_push q_174 rfl ?_
    refine e_store (ls' := [some (.inr (some 60)), some (.inl x1), some (.inl 0), o3, o4]) q_174 rfl (Nat.le_of_ble_eq_true rfl) rfl rfl ?_
    refine e_push q_174 rfl ?_
    refine e_store (ls' := [some (.inr (some 60)), some (.inl x1), some (.inl 0), some (.inl 0), o4]) q_174 rfl (Nat.le_of_ble_eq_true rfl) rfl rfl ?_
    exact h
  · replace h := h.2 c
    refine e_load q_174 rfl rfl rfl ?_
    refine e_push q_174 rfl ?_
    exact e_virt q_174 rfl rfl (Nat.le_of_ble_eq_true rfl) rfl rfl (Nat.le_of_ble_eq_true rfl) rfl h
theorem g_174_11 {S : Nat × (Nat → Int32)} {d : Nat} {σ : Mem} {Q : MQ1} {x1 : Int32} {x2 : Int32} {x3 : Int32} {o4 : Option MV}  (h : (((σ 61 0) ≤ x3 → Q [.inl x2] σ) ∧ (¬ ((σ 61 0) ≤ x3) → Ec S d 172 [.inr (some 60), .inl x3, .inl x1] σ (fun rv σ' => Ev S (d + 1) 174 21 [some (.inr (some 60)), some (.inl x1), some (.inl x2), some (.inl x3), o4] (rv ++ []) σ' Q)))) : Ev S (d + 1) 174 11 [some (.inr (some 60)), some (.inl x1), some (.inl x2), some (.inl x3), o4] [] σ Q := by
  refine e_load q_174 rfl rfl rfl ?_
  refine e_load q_174 rfl rfl rfl ?_
  refine e_getR q_174 rfl rfl rfl ?_
  refine e_push q_174 rfl ?_
  refine e_iald (j := 0) q_174 rfl rfl (by decide) (by decide +kernel) (by decide) ?_
  refine e_icmp (P := (σ 61 0) ≤ x3) q_174 rfl m_c3 (fun c => ?_) (fun c => ?_)
  · replace h := h.1 c
    refine e_load q_174 rfl rfl rfl ?_
    exact e_ireturn q_174 rfl rfl h
  · replace h := h.2 c
    refine e_load q_174 rfl rfl rfl ?_
    refine e_load q_174 rfl rfl rfl ?_
    refine e_load q_174 rfl rfl rfl ?_
    exact e_virt q_174 rfl rfl (Nat.le_of_ble_eq_true rfl) rfl rfl (Nat.le_of_ble_eq_true rfl) rfl h
theorem g_174_6 {S : Nat × (Nat → Int32)} {d : Nat} {σ : Mem} {Q : MQ1} {o0 : Option MV} {o1 : Option MV} {o2 : Option MV} {o3 : Option MV} {o4 : Option MV} {y0 : Int32}  (h : Q [.inl y0] σ) : Ev S (d + 1) 174 6 [o0, o1, o2, o3, o4] [.inl y0] σ Q := by
  exact e_ireturn q_174 rfl rfl h
theorem g_174_21 {S : Nat × (Nat → Int32)} {d : Nat} {σ : Mem} {Q : MQ1} {x1 : Int32} {x2 : Int32} {x3 : Int32} {o4 : Option MV} {y0 : Int32}  (h : Ec S d 122 [.inr (some 60), .inl x3, .inl 8] σ (fun rv σ' => Ev S (d + 1) 174 25 [some (.inr (some 60)), some (.inl x1), some (.inl x2), some (.inl x3), o4] (rv ++ [.inl y0]) σ' Q)) : Ev S (d + 1) 174 21 [some (.inr (some 60)), some (.inl x1), some (.inl x2), some (.inl x3), o4] [.inl y0] σ Q := by
  refine e_load q_174 rfl rfl rfl ?_
  refine e_load q_174 rfl rfl rfl ?_
  refine e_push q_174 rfl ?_
  exact e_virt q_174 rfl rfl (Nat.le_of_ble_eq_true rfl) rfl rfl (Nat.le_of_ble_eq_true rfl) rfl h
theorem g_174_25 {S : Nat × (Nat → Int32)} {d : Nat} {σ : Mem} {Q : MQ1} {x1 : Int32} {x2 : Int32} {x3 : Int32} {o4 : Option MV} {y0 : Int32} {y1 : Int32}  (h : (((y0 - y1) ≤ 0 → Ev S (d + 1) 174 11 [some (.inr (some 60)), some (.inl x1), some (.inl (x2 + 0)), some (.inl (x3 + 1)), some (.inl (y0 - y1))] [] σ Q) ∧ (¬ ((y0 - y1) ≤ 0) → Ev S (d + 1) 174 11 [some (.inr (some 60)), some (.inl x1), some (.inl (x2 + (y0 - y1))), some (.inl (x3 + 1)), some (.inl (y0 - y1))] [] σ Q))) : Ev S (d + 1) 174 25 [some (.inr (some 60)), some (.inl x1), some (.inl x2), some (.inl x3), o4] [.inl y1, .inl y0] σ Q := by
  refine e_bin (r := y0 - y1) q_174 rfl rfl ?_
  refine e_store (ls' := [some (.inr (some 60)), some (.inl x1), some (.inl x2), some (.inl x3), some (.inl (y0 - y1))]) q_174 rfl (Nat.le_of_ble_eq_true rfl) rfl rfl ?_
  refine e_load q_174 rfl rfl rfl ?_
  refine e_load q_174 rfl rfl rfl ?_
  refine e_if (P := (y0 - y1) ≤ 0) q_174 rfl m_c5 (fun c => ?_) (fun c => ?_)
  · replace h := h.1 c
    refine e_push q_174 rfl ?_
    refine e_bin (r := x2 + 0) q_174 rfl rfl ?_
    refine e_store (ls' := [some (.inr (some 60)), some (.inl x1), some (.inl (x2 + 0)), some (.inl x3), some (.inl (y0 - y1))]) q_174 rfl (Nat.le_of_ble_eq_true rfl) rfl rfl ?_
    refine e_iinc (ls' := [some (.inr (some 60)), some (.inl x1), some (.inl (x2 + 0)), some (.inl (x3 + 1)), some (.inl (y0 - y1))]) q_174 rfl rfl rfl ?_
    refine e_goto q_174 rfl ?_
    exact h
  · replace h := h.2 c
    refine e_load q_174 rfl rfl rfl ?_
    refine e_goto q_174 rfl ?_
    refine e_bin (r := x2 + (y0 - y1)) q_174 rfl rfl ?_
    refine e_store (ls' := [some (.inr (some 60)), some (.inl x1), some (.inl (x2 + (y0 - y1))), some (.inl x3), some (.inl (y0 - y1))]) q_174 rfl (Nat.le_of_ble_eq_true rfl) rfl rfl ?_
    refine e_iinc (ls' := [some (.inr (some 60)), some (.inl x1), some (.inl (x2 + (y0 - y1))), some (.inl (x3 + 1)), some (.inl (y0 - y1))]) q_174 rfl rfl rfl ?_
    refine e_goto q_174 rfl ?_
    exact h
theorem q_175 : m_code 175 = mc_175 := rfl
theorem g_175_0 {S : Nat × (Nat → Int32)} {d : Nat} {σ : Mem} {Q : MQ1} {x1 : Int32}  (h : Ev S (d + 1) 175 4 [some (.inr (some 60)), some (.inl x1), some (.inl 0), some (.inl 0)] [] σ Q) : Ev S (d + 1) 175 0 [some (.inr (some 60)), some (.inl x1), none, none] [] σ Q := by
  refine e_push q_175 rfl ?_
  refine e_store (ls' := [some (.inr (some 60)), some (.inl x1), some (.inl 0), none]) q_175 rfl (Nat.le_of_ble_eq_true rfl) rfl rfl ?_
  refine e_push q_175 rfl ?_
  refine e_store (ls' := [some (.inr (some 60)), some (.inl x1), some (.inl 0), some (.inl 0)]) q_175 rfl (Nat.le_of_ble_eq_true rfl) rfl rfl ?_
  exact h
theorem g_175_4 {S : Nat × (Nat → Int32)} {d : Nat} {σ : Mem} {Q : MQ1} {x1 : Int32} {x2 : Int32} {x3 : Int32}  (h : ((6 ≤ x3 → ((x1 = 0 → Q [.inl (σ 61 0)] σ) ∧ (x1 = 1 → Q [.inl x2] σ) ∧ (x1 = 2 → Q [.inl (σ 61 85)] σ) ∧ (x1 = 3 → Q [.inl (σ 60 6)] σ) ∧ ((∀ j : Nat, j < 4 → ¬ x1 = 0 + nI j) → Ec S d 118 [.inr (some 60), .inl (-100001)] σ (fun rv σ' => Ev S (d + 1) 175 39 [some (.inr (some 60)), some (.inl x1), some (.inl x2), some (.inl x3)] (rv ++ []) σ' Q)))) ∧ (¬ (6 ≤ x3) → Ec S d 125 [.inr (some 60), .inl x3] σ (fun rv σ' => Ev S (d + 1) 175 11 [some (.inr (some 60)), some (.inl x1), some (.inl x2), some (.inl x3)] (rv ++ [.inl x2]) σ' Q)))) : Ev S (d + 1) 175 4 [some (.inr (some 60)), some (.inl x1), some (.inl x2), some (.inl x3)] [] σ Q := by
  refine e_load q_175 rfl rfl rfl ?_
  refine e_push q_175 rfl ?_
  refine e_icmp (P := 6 ≤ x3) q_175 rfl m_c3 (fun c => ?_) (fun c => ?_)
  · replace h := h.1 c
    refine e_load q_175 rfl rfl rfl ?_
    refine e_switch q_175 rfl ?_
    rcases m_sw (x := x1) (t := 36) (lo := 0) (ts := [21, 26, 28, 33]) (by decide) (by decide) (by decide) with ⟨j, hj, hl, hx⟩ | ⟨hx, hn⟩
    · match j, hj, hl, hx with
      | 0, hj, hl, hx =>
        rw [show m_swt 36 0 [21, 26, 28, 33] (x1) = 21 from hx]
        replace h := h.1 (hj.trans (by decide +kernel))
        refine e_load q_175 rfl rfl rfl ?_
        refine e_getR q_175 rfl rfl rfl ?_
        refine e_push q_175 rfl ?_
        refine e_iald (j := 0) q_175 rfl rfl (by decide) (by decide +kernel) (by decide) ?_
        exact e_ireturn q_175 rfl rfl h
      | 1, hj, hl, hx =>
        rw [show m_swt 36 0 [21, 26, 28, 33] (x1) = 26 from hx]
        replace h := h.2.1 (hj.trans (by decide +kernel))
        refine e_load q_175 rfl rfl rfl ?_
        exact e_ireturn q_175 rfl rfl h
      | 2, hj, hl, hx =>
        rw [show m_swt 36 0 [21, 26, 28, 33] (x1) = 28 from hx]
        replace h := h.2.2.1 (hj.trans (by decide +kernel))
        refine e_load q_175 rfl rfl rfl ?_
        refine e_getR q_175 rfl rfl rfl ?_
        refine e_push q_175 rfl ?_
        refine e_iald (j := 85) q_175 rfl rfl (by decide) (by decide +kernel) (by decide) ?_
        exact e_ireturn q_175 rfl rfl h
      | 3, hj, hl, hx =>
        rw [show m_swt 36 0 [21, 26, 28, 33] (x1) = 33 from hx]
        replace h := h.2.2.2.1 (hj.trans (by decide +kernel))
        refine e_load q_175 rfl rfl rfl ?_
        refine e_getI q_175 rfl rfl rfl ?_
        exact e_ireturn q_175 rfl rfl h
      | j + 4, hj, hl, hx => exact absurd hl (show ¬ j + 4 < 4 by omega)
    · rw [hx]
      replace h := h.2.2.2.2 hn
      refine e_load q_175 rfl rfl rfl ?_
      refine e_push q_175 rfl ?_
      exact e_virt q_175 rfl rfl (Nat.le_of_ble_eq_true rfl) rfl rfl (Nat.le_of_ble_eq_true rfl) rfl h
  · replace h := h.2 c
    refine e_load q_175 rfl rfl rfl ?_
    refine e_load q_175 rfl rfl rfl ?_
    refine e_load q_175 rfl rfl rfl ?_
    exact e_virt q_175 rfl rfl (Nat.le_of_ble_eq_true rfl) rfl rfl (Nat.le_of_ble_eq_true rfl) rfl h
theorem g_175_39 {S : Nat × (Nat → Int32)} {d : Nat} {σ : Mem} {Q : MQ1} {o0 : Option MV} {o1 : Option MV} {o2 : Option MV} {o3 : Option MV} {y0 : Int32}  (h : Q [.inl y0] σ) : Ev S (d + 1) 175 39 [o0, o1, o2, o3] [.inl y0] σ Q := by
  exact e_ireturn q_175 rfl rfl h
theorem g_175_11 {S : Nat × (Nat → Int32)} {d : Nat} {σ : Mem} {Q : MQ1} {x1 : Int32} {o2 : Option MV} {x3 : Int32} {y0 : Int32} {y1 : Int32}  (h : ((y1 = 0 → Ev S (d + 1) 175 4 [some (.inr (some 60)), some (.inl x1), some (.inl (y0 + 0)), some (.inl (x3 + 1))] [] σ Q) ∧ (¬ (y1 = 0) → Ev S (d + 1) 175 4 [some (.inr (some 60)), some (.inl x1), some (.inl (y0 + 1)), some (.inl (x3 + 1))] [] σ Q))) : Ev S (d + 1) 175 11 [some (.inr (some 60)), some (.inl x1), o2, some (.inl x3)] [.inl y1, .inl y0] σ Q := by
  refine e_if (P := y1 = 0) q_175 rfl m_c0 (fun c => ?_) (fun c => ?_)
  · replace h := h.1 c
    refine e_push q_175 rfl ?_
    refine e_bin (r := y0 + 0) q_175 rfl rfl ?_
    refine e_store (ls' := [some (.inr (some 60)), some (.inl x1), some (.inl (y0 + 0)), some (.inl x3)]) q_175 rfl (Nat.le_of_ble_eq_true rfl) rfl rfl ?_
    refine e_iinc (ls' := [some (.inr (some 60)), some (.inl x1), some (.inl (y0 + 0)), some (.inl (x3 + 1))]) q_175 rfl rfl rfl ?_
    refine e_goto q_175 rfl ?_
    exact h
  · replace h := h.2 c
    refine e_push q_175 rfl ?_
    refine e_goto q_175 rfl ?_
    refine e_bin (r := y0 + 1) q_175 rfl rfl ?_
    refine e_store (ls' := [some (.inr (some 60)), some (.inl x1), some (.inl (y0 + 1)), some (.inl x3)]) q_175 rfl (Nat.le_of_ble_eq_true rfl) rfl rfl ?_
    refine e_iinc (ls' := [some (.inr (some 60)), some (.inl x1), some (.inl (y0 + 1)), some (.inl (x3 + 1))]) q_175 rfl rfl rfl ?_
    refine e_goto q_175 rfl ?_
    exact h
