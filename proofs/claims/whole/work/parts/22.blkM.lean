theorem g_126_0 {S : Nat × (Nat → Int32)} {d : Nat} {σ : Mem} {Q : MQ1}   (h : (((¬ (σ 60 2) = 25) → Ev S d 126 29 [some (.inr (some 60)), some (.inl 0)] [] σ Q) ∧ (¬ (¬ (σ 60 2) = 25) → Ev S d 126 6 [some (.inr (some 60)), some (.inl 0)] [] σ Q))) : Ev S d 126 0 [some (.inr (some 60)), none] [] σ Q := by
  refine e_load q_126 rfl rfl rfl ?_
  refine e_getI q_126 rfl rfl rfl ?_
  refine e_push q_126 rfl ?_
  refine e_icmp (P := ¬ (σ 60 2) = 25) q_126 rfl m_c1 (fun c => ?_) (fun c => ?_)
  · replace h := h.1 c
    refine e_push q_126 rfl ?_
    refine e_store (ls' := [some (.inr (some 60)), some (.inl 0)]) q_126 rfl (Nat.le_of_ble_eq_true rfl) rfl rfl ?_
    exact h
  · replace h := h.2 c
    refine e_push q_126 rfl ?_
    refine e_store (ls' := [some (.inr (some 60)), some (.inl 0)]) q_126 rfl (Nat.le_of_ble_eq_true rfl) rfl rfl ?_
    exact h
theorem g_126_29 {S : Nat × (Nat → Int32)} {d : Nat} {σ : Mem} {Q : MQ1} {x1 : Int32}  (h : ((86 ≤ x1 → Q [] (up σ 60 2 ((σ 60 2) + 1))) ∧ (¬ (86 ≤ x1) → (∃ j1 : Nat, x1 = nI j1 ∧ j1 < 86 ∧ (∃ j2 : Nat, (86 * (σ 60 2)) + x1 = nI j2 ∧ j2 < 2150 ∧ Ev S d 126 29 [some (.inr (some 60)), some (.inl (x1 + 1))] [] (up σ 62 j2 (σ 61 j1)) Q))))) : Ev S d 126 29 [some (.inr (some 60)), some (.inl x1)] [] σ Q := by
  refine e_load q_126 rfl rfl rfl ?_
  refine e_push q_126 rfl ?_
  refine e_icmp (P := 86 ≤ x1) q_126 rfl m_c3 (fun c => ?_) (fun c => ?_)
  · replace h := h.1 c
    refine e_load q_126 rfl rfl rfl ?_
    refine e_dup q_126 rfl ?_
    refine e_getI q_126 rfl rfl rfl ?_
    refine e_push q_126 rfl ?_
    refine e_bin (r := (σ 60 2) + 1) q_126 rfl rfl ?_
    refine e_putI q_126 rfl rfl rfl ?_
    exact e_return q_126 rfl rfl h
  · replace h := h.2 c
    refine e_load q_126 rfl rfl rfl ?_
    refine e_getR q_126 rfl rfl rfl ?_
    refine e_push q_126 rfl ?_
    refine e_load q_126 rfl rfl rfl ?_
    refine e_getI q_126 rfl rfl rfl ?_
    refine e_bin (r := 86 * (σ 60 2)) q_126 rfl rfl ?_
    refine e_load q_126 rfl rfl rfl ?_
    refine e_bin (r := (86 * (σ 60 2)) + x1) q_126 rfl rfl ?_
    refine e_load q_126 rfl rfl rfl ?_
    refine e_getR q_126 rfl rfl rfl ?_
    refine e_load q_126 rfl rfl rfl ?_
    obtain ⟨j1, hjj1, hlj1, h⟩ := h
    refine e_iald q_126 rfl rfl (by decide) hjj1 hlj1 ?_
    obtain ⟨j2, hjj2, hlj2, h⟩ := h
    refine e_iast q_126 rfl rfl (by decide) hjj2 hlj2 ?_
    refine e_iinc (ls' := [some (.inr (some 60)), some (.inl (x1 + 1))]) q_126 rfl rfl rfl ?_
    refine e_goto q_126 rfl ?_
    exact h
theorem g_126_6 {S : Nat × (Nat → Int32)} {d : Nat} {σ : Mem} {Q : MQ1} {x1 : Int32}  (h : ((2064 ≤ x1 → Ev S d 126 29 [some (.inr (some 60)), some (.inl 0)] [] (up σ 60 2 ((σ 60 2) - 1)) Q) ∧ (¬ (2064 ≤ x1) → (∃ j1 : Nat, x1 + 86 = nI j1 ∧ j1 < 2150 ∧ (∃ j2 : Nat, x1 = nI j2 ∧ j2 < 2150 ∧ Ev S d 126 6 [some (.inr (some 60)), some (.inl (x1 + 1))] [] (up σ 62 j2 (σ 62 j1)) Q))))) : Ev S d 126 6 [some (.inr (some 60)), some (.inl x1)] [] σ Q := by
  refine e_load q_126 rfl rfl rfl ?_
  refine e_push q_126 rfl ?_
  refine e_icmp (P := 2064 ≤ x1) q_126 rfl m_c3 (fun c => ?_) (fun c => ?_)
  · replace h := h.1 c
    refine e_load q_126 rfl rfl rfl ?_
    refine e_dup q_126 rfl ?_
    refine e_getI q_126 rfl rfl rfl ?_
    refine e_push q_126 rfl ?_
    refine e_bin (r := (σ 60 2) - 1) q_126 rfl rfl ?_
    refine e_putI q_126 rfl rfl rfl ?_
    refine e_push q_126 rfl ?_
    refine e_store (ls' := [some (.inr (some 60)), some (.inl 0)]) q_126 rfl (Nat.le_of_ble_eq_true rfl) rfl rfl ?_
    exact h
  · replace h := h.2 c
    refine e_load q_126 rfl rfl rfl ?_
    refine e_getR q_126 rfl rfl rfl ?_
    refine e_load q_126 rfl rfl rfl ?_
    refine e_load q_126 rfl rfl rfl ?_
    refine e_getR q_126 rfl rfl rfl ?_
    refine e_load q_126 rfl rfl rfl ?_
    refine e_push q_126 rfl ?_
    refine e_bin (r := x1 + 86) q_126 rfl rfl ?_
    obtain ⟨j1, hjj1, hlj1, h⟩ := h
    refine e_iald q_126 rfl rfl (by decide) hjj1 hlj1 ?_
    obtain ⟨j2, hjj2, hlj2, h⟩ := h
    refine e_iast q_126 rfl rfl (by decide) hjj2 hlj2 ?_
    refine e_iinc (ls' := [some (.inr (some 60)), some (.inl (x1 + 1))]) q_126 rfl rfl rfl ?_
    refine e_goto q_126 rfl ?_
    exact h
theorem g_127_0 {S : Nat × (Nat → Int32)} {d : Nat} {σ : Mem} {Q : MQ1}   (h : (((¬ (σ 60 2) = 0) → Ev S (d + 1) 127 15 [some (.inr (some 60)), some (.inl 0)] [] (up σ 60 2 ((σ 60 2) - 1)) Q) ∧ (¬ (¬ (σ 60 2) = 0) → Q [.inl (-100006)] (up σ 60 6 ((σ 60 6) + 1))))) : Ev S (d + 1) 127 0 [some (.inr (some 60)), none] [] σ Q := by
  refine e_load q_127 rfl rfl rfl ?_
  refine e_getI q_127 rfl rfl rfl ?_
  refine e_if (P := ¬ (σ 60 2) = 0) q_127 rfl m_c1 (fun c => ?_) (fun c => ?_)
  · replace h := h.1 c
    refine e_load q_127 rfl rfl rfl ?_
    refine e_dup q_127 rfl ?_
    refine e_getI q_127 rfl rfl rfl ?_
    refine e_push q_127 rfl ?_
    refine e_bin (r := (σ 60 2) - 1) q_127 rfl rfl ?_
    refine e_putI q_127 rfl rfl rfl ?_
    refine e_push q_127 rfl ?_
    refine e_store (ls' := [some (.inr (some 60)), some (.inl 0)]) q_127 rfl (Nat.le_of_ble_eq_true rfl) rfl rfl ?_
    exact h
  · replace h := h.2 c
    refine e_load q_127 rfl rfl rfl ?_
    refine e_push q_127 rfl ?_
    refine e_virt q_127 rfl rfl (Nat.le_of_ble_eq_true rfl) rfl rfl (Nat.le_of_ble_eq_true rfl) rfl ?_
    show Ev S d 118 0 [some (.inr (some 60)), some (.inl (-100006))] [] σ _
    refine e_load q_118 rfl rfl rfl ?_
    refine e_dup q_118 rfl ?_
    refine e_getI q_118 rfl rfl rfl ?_
    refine e_push q_118 rfl ?_
    refine e_bin (r := (σ 60 6) + 1) q_118 rfl rfl ?_
    refine e_putI q_118 rfl rfl rfl ?_
    refine e_load q_118 rfl rfl rfl ?_
    refine e_ireturn q_118 rfl rfl ?_
    show Ev S (d + 1) 127 6 [some (.inr (some 60)), none] [.inl (-100006)] (up σ 60 6 ((σ 60 6) + 1)) _
    exact e_ireturn q_127 rfl rfl h
theorem g_127_15 {S : Nat × (Nat → Int32)} {d : Nat} {σ : Mem} {Q : MQ1} {x1 : Int32}  (h : ((86 ≤ x1 → Q [.inl (σ 60 2)] σ) ∧ (¬ (86 ≤ x1) → (∃ j1 : Nat, (86 * (σ 60 2)) + x1 = nI j1 ∧ j1 < 2150 ∧ (∃ j2 : Nat, x1 = nI j2 ∧ j2 < 86 ∧ Ev S (d + 1) 127 15 [some (.inr (some 60)), some (.inl (x1 + 1))] [] (up σ 61 j2 (σ 62 j1)) Q))))) : Ev S (d + 1) 127 15 [some (.inr (some 60)), some (.inl x1)] [] σ Q := by
  refine e_load q_127 rfl rfl rfl ?_
  refine e_push q_127 rfl ?_
  refine e_icmp (P := 86 ≤ x1) q_127 rfl m_c3 (fun c => ?_) (fun c => ?_)
  · replace h := h.1 c
    refine e_load q_127 rfl rfl rfl ?_
    refine e_getI q_127 rfl rfl rfl ?_
    exact e_ireturn q_127 rfl rfl h
  · replace h := h.2 c
    refine e_load q_127 rfl rfl rfl ?_
    refine e_getR q_127 rfl rfl rfl ?_
    refine e_load q_127 rfl rfl rfl ?_
    refine e_load q_127 rfl rfl rfl ?_
    refine e_getR q_127 rfl rfl rfl ?_
    refine e_push q_127 rfl ?_
    refine e_load q_127 rfl rfl rfl ?_
    refine e_getI q_127 rfl rfl rfl ?_
    refine e_bin (r := 86 * (σ 60 2)) q_127 rfl rfl ?_
    refine e_load q_127 rfl rfl rfl ?_
    refine e_bin (r := (86 * (σ 60 2)) + x1) q_127 rfl rfl ?_
    obtain ⟨j1, hjj1, hlj1, h⟩ := h
    refine e_iald q_127 rfl rfl (by decide) hjj1 hlj1 ?_
    obtain ⟨j2, hjj2, hlj2, h⟩ := h
    refine e_iast q_127 rfl rfl (by decide) hjj2 hlj2 ?_
    refine e_iinc (ls' := [some (.inr (some 60)), some (.inl (x1 + 1))]) q_127 rfl rfl rfl ?_
    refine e_goto q_127 rfl ?_
    exact h
theorem g_128_0 {S : Nat × (Nat → Int32)} {d : Nat} {σ : Mem} {Q : MQ1} {x1 : Int32} {x2 : Int32}  (h : ((x1 < 0 → Q [.inl (-100001)] (up σ 60 6 ((σ 60 6) + 1))) ∧ (¬ (x1 < 0) → ((3 < x1 → Q [.inl (-100001)] (up σ 60 6 ((σ 60 6) + 1))) ∧ (¬ (3 < x1) → ((x2 < 1 → Q [.inl (-100001)] (up σ 60 6 ((σ 60 6) + 1))) ∧ (¬ (x2 < 1) → ((9 < x2 → Q [.inl (-100001)] (up σ 60 6 ((σ 60 6) + 1))) ∧ (¬ (9 < x2) → (((¬ (σ 61 0) = 8) → Ec S d 126 [.inr (some 60)] σ (fun rv σ' => Ev S (d + 1) 128 26 [some (.inr (some 60)), some (.inl x1), some (.inl x2), none, none] (rv ++ []) σ' Q)) ∧ (¬ (¬ (σ 61 0) = 8) → Q [.inl (-100005)] (up σ 60 6 ((σ 60 6) + 1))))))))))))) : Ev S (d + 1) 128 0 [some (.inr (some 60)), some (.inl x1), some (.inl x2), none, none] [] σ Q := by
  refine e_load q_128 rfl rfl rfl ?_
  refine e_push q_128 rfl ?_
  refine e_push q_128 rfl ?_
  refine e_stat q_128 rfl (Nat.le_of_ble_eq_true rfl) rfl rfl (Nat.le_of_ble_eq_true rfl) ?_
  show Ev S d 119 0 [some (.inl x1), some (.inl 0), some (.inl 3)] [] σ _
  refine e_load q_119 rfl rfl rfl ?_
  refine e_load q_119 rfl rfl rfl ?_
  refine e_icmp (P := x1 < 0) q_119 rfl m_c2 (fun c => ?_) (fun c => ?_)
  · replace h := h.1 c
    refine e_push q_119 rfl ?_
    refine e_zreturn q_119 rfl rfl (by decide) ?_
    show Ev S (d + 1) 128 4 [some (.inr (some 60)), some (.inl x1), some (.inl x2), none, none] [.inl 0] σ _
    refine e_if (P := (0 : Int32) = 0) q_128 rfl m_c0 (fun _ => ?_) (fun c => absurd (by decide) c)
    refine e_load q_128 rfl rfl rfl ?_
    refine e_push q_128 rfl ?_
    refine e_virt q_128 rfl rfl (Nat.le_of_ble_eq_true rfl) rfl rfl (Nat.le_of_ble_eq_true rfl) rfl ?_
    show Ev S d 118 0 [some (.inr (some 60)), some (.inl (-100001))] [] σ _
    refine e_load q_118 rfl rfl rfl ?_
    refine e_dup q_118 rfl ?_
    refine e_getI q_118 rfl rfl rfl ?_
    refine e_push q_118 rfl ?_
    refine e_bin (r := (σ 60 6) + 1) q_118 rfl rfl ?_
    refine e_putI q_118 rfl rfl rfl ?_
    refine e_load q_118 rfl rfl rfl ?_
    refine e_ireturn q_118 rfl rfl ?_
    show Ev S (d + 1) 128 13 [some (.inr (some 60)), some (.inl x1), some (.inl x2), none, none] [.inl (-100001)] (up σ 60 6 ((σ 60 6) + 1)) _
    exact e_ireturn q_128 rfl rfl h
  · replace h := h.2 c
    refine e_load q_119 rfl rfl rfl ?_
    refine e_load q_119 rfl rfl rfl ?_
    refine e_icmp (P := 3 < x1) q_119 rfl m_c4 (fun c => ?_) (fun c => ?_)
    · replace h := h.1 c
      refine e_push q_119 rfl ?_
      refine e_zreturn q_119 rfl rfl (by decide) ?_
      show Ev S (d + 1) 128 4 [some (.inr (some 60)), some (.inl x1), some (.inl x2), none, none] [.inl 0] σ _
      refine e_if (P := (0 : Int32) = 0) q_128 rfl m_c0 (fun _ => ?_) (fun c => absurd (by decide) c)
      refine e_load q_128 rfl rfl rfl ?_
      refine e_push q_128 rfl ?_
      refine e_virt q_128 rfl rfl (Nat.le_of_ble_eq_true rfl) rfl rfl (Nat.le_of_ble_eq_true rfl) rfl ?_
      show Ev S d 118 0 [some (.inr (some 60)), some (.inl (-100001))] [] σ _
      refine e_load q_118 rfl rfl rfl ?_
      refine e_dup q_118 rfl ?_
      refine e_getI q_118 rfl rfl rfl ?_
      refine e_push q_118 rfl ?_
      refine e_bin (r := (σ 60 6) + 1) q_118 rfl rfl ?_
      refine e_putI q_118 rfl rfl rfl ?_
      refine e_load q_118 rfl rfl rfl ?_
      refine e_ireturn q_118 rfl rfl ?_
      show Ev S (d + 1) 128 13 [some (.inr (some 60)), some (.inl x1), some (.inl x2), none, none] [.inl (-100001)] (up σ 60 6 ((σ 60 6) + 1)) _
      exact e_ireturn q_128 rfl rfl h
    · replace h := h.2 c
      refine e_push q_119 rfl ?_
      refine e_goto q_119 rfl ?_
      refine e_zreturn q_119 rfl rfl (by decide) ?_
      show Ev S (d + 1) 128 4 [some (.inr (some 60)), some (.inl x1), some (.inl x2), none, none] [.inl 1] σ _
      refine e_if (P := (1 : Int32) = 0) q_128 rfl m_c0 (fun c => absurd c (by decide)) (fun _ => ?_)
      refine e_load q_128 rfl rfl rfl ?_
      refine e_push q_128 rfl ?_
      refine e_push q_128 rfl ?_
      refine e_stat q_128 rfl (Nat.le_of_ble_eq_true rfl) rfl rfl (Nat.le_of_ble_eq_true rfl) ?_
      show Ev S d 119 0 [some (.inl x2), some (.inl 1), some (.inl 9)] [] σ _
      refine e_load q_119 rfl rfl rfl ?_
      refine e_load q_119 rfl rfl rfl ?_
      refine e_icmp (P := x2 < 1) q_119 rfl m_c2 (fun c => ?_) (fun c => ?_)
      · replace h := h.1 c
        refine e_push q_119 rfl ?_
        refine e_zreturn q_119 rfl rfl (by decide) ?_
        show Ev S (d + 1) 128 9 [some (.inr (some 60)), some (.inl x1), some (.inl x2), none, none] [.inl 0] σ _
        refine e_if (P := ¬ (0 : Int32) = 0) q_128 rfl m_c1 (fun c => absurd c (by decide)) (fun _ => ?_)
        refine e_load q_128 rfl rfl rfl ?_
        refine e_push q_128 rfl ?_
        refine e_virt q_128 rfl rfl (Nat.le_of_ble_eq_true rfl) rfl rfl (Nat.le_of_ble_eq_true rfl) rfl ?_
        show Ev S d 118 0 [some (.inr (some 60)), some (.inl (-100001))] [] σ _
        refine e_load q_118 rfl rfl rfl ?_
        refine e_dup q_118 rfl ?_
        refine e_getI q_118 rfl rfl rfl ?_
        refine e_push q_118 rfl ?_
        refine e_bin (r := (σ 60 6) + 1) q_118 rfl rfl ?_
        refine e_putI q_118 rfl rfl rfl ?_
        refine e_load q_118 rfl rfl rfl ?_
        refine e_ireturn q_118 rfl rfl ?_
        show Ev S (d + 1) 128 13 [some (.inr (some 60)), some (.inl x1), some (.inl x2), none, none] [.inl (-100001)] (up σ 60 6 ((σ 60 6) + 1)) _
        exact e_ireturn q_128 rfl rfl h
      · replace h := h.2 c
        refine e_load q_119 rfl rfl rfl ?_
        refine e_load q_119 rfl rfl rfl ?_
        refine e_icmp (P := 9 < x2) q_119 rfl m_c4 (fun c => ?_) (fun c => ?_)
        · replace h := h.1 c
          refine e_push q_119 rfl ?_
          refine e_zreturn q_119 rfl rfl (by decide) ?_
          show Ev S (d + 1) 128 9 [some (.inr (some 60)), some (.inl x1), some (.inl x2), none, none] [.inl 0] σ _
          refine e_if (P := ¬ (0 : Int32) = 0) q_128 rfl m_c1 (fun c => absurd c (by decide)) (fun _ => ?_)
          refine e_load q_128 rfl rfl rfl ?_
          refine e_push q_128 rfl ?_
          refine e_virt q_128 rfl rfl (Nat.le_of_ble_eq_true rfl) rfl rfl (Nat.le_of_ble_eq_true rfl) rfl ?_
          show Ev S d 118 0 [some (.inr (some 60)), some (.inl (-100001))] [] σ _
          refine e_load q_118 rfl rfl rfl ?_
          refine e_dup q_118 rfl ?_
          refine e_getI q_118 rfl rfl rfl ?_
          refine e_push q_118 rfl ?_
          refine e_bin (r := (σ 60 6) + 1) q_118 rfl rfl ?_
          refine e_putI q_118 rfl rfl rfl ?_
          refine e_load q_118 rfl rfl rfl ?_
          refine e_ireturn q_118 rfl rfl ?_
          show Ev S (d + 1) 128 13 [some (.inr (some 60)), some (.inl x1), some (.inl x2), none, none] [.inl (-100001)] (up σ 60 6 ((σ 60 6) + 1)) _
          exact e_ireturn q_128 rfl rfl h
        · replace h := h.2 c
          refine e_push q_119 rfl ?_
          refine e_goto q_119 rfl ?_
          refine e_zreturn q_119 rfl rfl (by decide) ?_
          show Ev S (d + 1) 128 9 [some (.inr (some 60)), some (.inl x1), some (.inl x2), none, none] [.inl 1] σ _
          refine e_if (P := ¬ (1 : Int32) = 0) q_128 rfl m_c1 (fun _ => ?_) (fun c => absurd (by decide) c)
          refine e_load q_128 rfl rfl rfl ?_
          refine e_getR q_128 rfl rfl rfl ?_
          refine e_push q_128 rfl ?_
          refine e_iald (j := 0) q_128 rfl rfl (by decide) (by decide +kernel) (by decide) ?_
          refine e_push q_128 rfl ?_
          refine e_icmp (P := ¬ (σ 61 0) = 8) q_128 rfl m_c1 (fun c => ?_) (fun c => ?_)
          · replace h := h.1 c
            refine e_load q_128 rfl rfl rfl ?_
            exact e_virt q_128 rfl rfl (Nat.le_of_ble_eq_true rfl) rfl rfl (Nat.le_of_ble_eq_true rfl) rfl h
          · replace h := h.2 c
            refine e_load q_128 rfl rfl rfl ?_
            refine e_push q_128 rfl ?_
            refine e_virt q_128 rfl rfl (Nat.le_of_ble_eq_true rfl) rfl rfl (Nat.le_of_ble_eq_true rfl) rfl ?_
            show Ev S d 118 0 [some (.inr (some 60)), some (.inl (-100005))] [] σ _
            refine e_load q_118 rfl rfl rfl ?_
            refine e_dup q_118 rfl ?_
            refine e_getI q_118 rfl rfl rfl ?_
            refine e_push q_118 rfl ?_
            refine e_bin (r := (σ 60 6) + 1) q_118 rfl rfl ?_
            refine e_putI q_118 rfl rfl rfl ?_
            refine e_load q_118 rfl rfl rfl ?_
            refine e_ireturn q_118 rfl rfl ?_
            show Ev S (d + 1) 128 23 [some (.inr (some 60)), some (.inl x1), some (.inl x2), none, none] [.inl (-100005)] (up σ 60 6 ((σ 60 6) + 1)) _
            exact e_ireturn q_128 rfl rfl h
theorem g_128_26 {S : Nat × (Nat → Int32)} {d : Nat} {σ : Mem} {Q : MQ1} {x1 : Int32} {x2 : Int32} {o3 : Option MV} {o4 : Option MV}  (h : Ev S (d + 1) 128 33 [some (.inr (some 60)), some (.inl x1), some (.inl x2), some (.inl (σ 61 0)), some (.inl 0)] [] σ Q) : Ev S (d + 1) 128 26 [some (.inr (some 60)), some (.inl x1), some (.inl x2), o3, o4] [] σ Q := by
  refine e_load q_128 rfl rfl rfl ?_
  refine e_getR q_128 rfl rfl rfl ?_
  refine e_push q_128 rfl ?_
  refine e_iald (j := 0) q_128 rfl rfl (by decide) (by decide +kernel) (by decide) ?_
  refine e_store (ls' := [some (.inr (some 60)), some (.inl x1), some (.inl x2), some (.inl (σ 61 0)), o4]) q_128 rfl (Nat.le_of_ble_eq_true rfl) rfl rfl ?_
  refine e_push q_128 rfl ?_
  refine e_store (ls' := [some (.inr (some 60)), some (.inl x1), some (.inl x2), some (.inl (σ 61 0)), some (.inl 0)]) q_128 rfl (Nat.le_of_ble_eq_true rfl) rfl rfl ?_
  exact h
theorem g_128_33 {S : Nat × (Nat → Int32)} {d : Nat} {σ : Mem} {Q : MQ1} {x1 : Int32} {x2 : Int32} {x3 : Int32} {x4 : Int32}  (h : ((9 ≤ x4 → (∃ j1 : Nat, (1 + (9 * x3)) + 0 = nI j1 ∧ j1 < 86 ∧ (∃ j2 : Nat, (1 + (9 * x3)) + 1 = nI j2 ∧ j2 < 86 ∧ (∃ j3 : Nat, (1 + (9 * x3)) + 5 = nI j3 ∧ j3 < 86 ∧ (∃ j4 : Nat, (1 + (9 * x3)) + 6 = nI j4 ∧ j4 < 86 ∧ (∃ j5 : Nat, (1 + (9 * x3)) + 7 = nI j5 ∧ j5 < 86 ∧ Q [.inl x3] (up (up (up (up (up (up σ 61 j1 x1) 61 j2 x2) 61 j3 (-1)) 61 j4 (-1)) 61 j5 (-1)) 61 0 (((up (up (up (up (up σ 61 j1 x1) 61 j2 x2) 61 j3 (-1)) 61 j4 (-1)) 61 j5 (-1)) 61 0) + 1)))))))) ∧ (¬ (9 ≤ x4) → (∃ j8 : Nat, (1 + (9 * x3)) + x4 = nI j8 ∧ j8 < 86 ∧ Ev S (d + 1) 128 33 [some (.inr (some 60)), some (.inl x1), some (.inl x2), some (.inl x3), some (.inl (x4 + 1))] [] (up σ 61 j8 0) Q)))) : Ev S (d + 1) 128 33 [some (.inr (some 60)), some (.inl x1), some (.inl x2), some (.inl x3), some (.inl x4)] [] σ Q := by
  refine e_load q_128 rfl rfl rfl ?_
  refine e_push q_128 rfl ?_
  refine e_icmp (P := 9 ≤ x4) q_128 rfl m_c3 (fun c => ?_) (fun c => ?_)
  · replace h := h.1 c
    refine e_load q_128 rfl rfl rfl ?_
    refine e_load q_128 rfl rfl rfl ?_
    refine e_push q_128 rfl ?_
    refine e_load q_128 rfl rfl rfl ?_
    refine e_virt q_128 rfl rfl (Nat.le_of_ble_eq_true rfl) rfl rfl (Nat.le_of_ble_eq_true rfl) rfl ?_
    show Ev S d 123 0 [some (.inr (some 60)), some (.inl x3), some (.inl 0), some (.inl x1)] [] σ _
    refine e_load q_123 rfl rfl rfl ?_
    refine e_getR q_123 rfl rfl rfl ?_
    refine e_push q_123 rfl ?_
    refine e_push q_123 rfl ?_
    refine e_load q_123 rfl rfl rfl ?_
    refine e_bin (r := 9 * x3) q_123 rfl rfl ?_
    refine e_bin (r := 1 + (9 * x3)) q_123 rfl rfl ?_
    refine e_load q_123 rfl rfl rfl ?_
    refine e_bin (r := (1 + (9 * x3)) + 0) q_123 rfl rfl ?_
    refine e_load q_123 rfl rfl rfl ?_
    obtain ⟨j1, hjj1, hlj1, h⟩ := h
    refine e_iast q_123 rfl rfl (by decide) hjj1 hlj1 ?_
    refine e_return q_123 rfl rfl ?_
    show Ev S (d + 1) 128 48 [some (.inr (some 60)), some (.inl x1), some (.inl x2), some (.inl x3), some (.inl x4)] [] (up σ 61 j1 x1) _
    refine e_load q_128 rfl rfl rfl ?_
    refine e_load q_128 rfl rfl rfl ?_
    refine e_push q_128 rfl ?_
    refine e_load q_128 rfl rfl rfl ?_
    refine e_virt q_128 rfl rfl (Nat.le_of_ble_eq_true rfl) rfl rfl (Nat.le_of_ble_eq_true rfl) rfl ?_
    show Ev S d 123 0 [some (.inr (some 60)), some (.inl x3), some (.inl 1), some (.inl x2)] [] (up σ 61 j1 x1) _
    refine e_load q_123 rfl rfl rfl ?_
    refine e_getR q_123 rfl rfl rfl ?_
    refine e_push q_123 rfl ?_
    refine e_push q_123 rfl ?_
    refine e_load q_123 rfl rfl rfl ?_
    refine e_bin (r := 9 * x3) q_123 rfl rfl ?_
    refine e_bin (r := 1 + (9 * x3)) q_123 rfl rfl ?_
    refine e_load q_123 rfl rfl rfl ?_
    refine e_bin (r := (1 + (9 * x3)) + 1) q_123 rfl rfl ?_
    refine e_load q_123 rfl rfl rfl ?_
    obtain ⟨j2, hjj2, hlj2, h⟩ := h
    refine e_iast q_123 rfl rfl (by decide) hjj2 hlj2 ?_
    refine e_return q_123 rfl rfl ?_
    show Ev S (d + 1) 128 53 [some (.inr (some 60)), some (.inl x1), some (.inl x2), some (.inl x3), some (.inl x4)] [] (up (up σ 61 j1 x1) 61 j2 x2) _
    refine e_load q_128 rfl rfl rfl ?_
    refine e_load q_128 rfl rfl rfl ?_
    refine e_push q_128 rfl ?_
    refine e_push q_128 rfl ?_
    refine e_virt q_128 rfl rfl (Nat.le_of_ble_eq_true rfl) rfl rfl (Nat.le_of_ble_eq_true rfl) rfl ?_
    show Ev S d 123 0 [some (.inr (some 60)), some (.inl x3), some (.inl 5), some (.inl (-1))] [] (up (up σ 61 j1 x1) 61 j2 x2) _
    refine e_load q_123 rfl rfl rfl ?_
    refine e_getR q_123 rfl rfl rfl ?_
    refine e_push q_123 rfl ?_
    refine e_push q_123 rfl ?_
    refine e_load q_123 rfl rfl rfl ?_
    refine e_bin (r := 9 * x3) q_123 rfl rfl ?_
    refine e_bin (r := 1 + (9 * x3)) q_123 rfl rfl ?_
    refine e_load q_123 rfl rfl rfl ?_
    refine e_bin (r := (1 + (9 * x3)) + 5) q_123 rfl rfl ?_
    refine e_load q_123 rfl rfl rfl ?_
    obtain ⟨j3, hjj3, hlj3, h⟩ := h
    refine e_iast q_123 rfl rfl (by decide) hjj3 hlj3 ?_
    refine e_return q_123 rfl rfl ?_
    show Ev S (d + 1) 128 58 [some (.inr (some 60)), some (.inl x1), some (.inl x2), some (.inl x3), some (.inl x4)] [] (up (up (up σ 61 j1 x1) 61 j2 x2) 61 j3 (-1)) _
    refine e_load q_128 rfl rfl rfl ?_
    refine e_load q_128 rfl rfl rfl ?_
    refine e_push q_128 rfl ?_
    refine e_push q_128 rfl ?_
    refine e_virt q_128 rfl rfl (Nat.le_of_ble_eq_true rfl) rfl rfl (Nat.le_of_ble_eq_true rfl) rfl ?_
    show Ev S d 123 0 [some (.inr (some 60)), some (.inl x3), some (.inl 6), some (.inl (-1))] [] (up (up (up σ 61 j1 x1) 61 j2 x2) 61 j3 (-1)) _
    refine e_load q_123 rfl rfl rfl ?_
    refine e_getR q_123 rfl rfl rfl ?_
    refine e_push q_123 rfl ?_
    refine e_push q_123 rfl ?_
    refine e_load q_123 rfl rfl rfl ?_
    refine e_bin (r := 9 * x3) q_123 rfl rfl ?_
    refine e_bin (r := 1 + (9 * x3)) q_123 rfl rfl ?_
    refine e_load q_123 rfl rfl rfl ?_
    refine e_bin (r := (1 + (9 * x3)) + 6) q_123 rfl rfl ?_
    refine e_load q_123 rfl rfl rfl ?_
    obtain ⟨j4, hjj4, hlj4, h⟩ := h
    refine e_iast q_123 rfl rfl (by decide) hjj4 hlj4 ?_
    refine e_return q_123 rfl rfl ?_
    show Ev S (d + 1) 128 63 [some (.inr (some 60)), some (.inl x1), some (.inl x2), some (.inl x3), some (.inl x4)] [] (up (up (up (up σ 61 j1 x1) 61 j2 x2) 61 j3 (-1)) 61 j4 (-1)) _
    refine e_load q_128 rfl rfl rfl ?_
    refine e_load q_128 rfl rfl rfl ?_
    refine e_push q_128 rfl ?_
    refine e_push q_128 rfl ?_
    refine e_virt q_128 rfl rfl (Nat.le_of_ble_eq_true rfl) rfl rfl (Nat.le_of_ble_eq_true rfl) rfl ?_
    show Ev S d 123 0 [some (.inr (some 60)), some (.inl x3), some (.inl 7), some (.inl (-1))] [] (up (up (up (up σ 61 j1 x1) 61 j2 x2) 61 j3 (-1)) 61 j4 (-1)) _
    refine e_load q_123 rfl rfl rfl ?_
    refine e_getR q_123 rfl rfl rfl ?_
    refine e_push q_123 rfl ?_
    refine e_push q_123 rfl ?_
    refine e_load q_123 rfl rfl rfl ?_
    refine e_bin (r := 9 * x3) q_123 rfl rfl ?_
    refine e_bin (r := 1 + (9 * x3)) q_123 rfl rfl ?_
    refine e_load q_123 rfl rfl rfl ?_
    refine e_bin (r := (1 + (9 * x3)) + 7) q_123 rfl rfl ?_
    refine e_load q_123 rfl rfl rfl ?_
    obtain ⟨j5, hjj5, hlj5, h⟩ := h
    refine e_iast q_123 rfl rfl (by decide) hjj5 hlj5 ?_
    refine e_return q_123 rfl rfl ?_
    show Ev S (d + 1) 128 68 [some (.inr (some 60)), some (.inl x1), some (.inl x2), some (.inl x3), some (.inl x4)] [] (up (up (up (up (up σ 61 j1 x1) 61 j2 x2) 61 j3 (-1)) 61 j4 (-1)) 61 j5 (-1)) _
    refine e_load q_128 rfl rfl rfl ?_
    refine e_getR q_128 rfl rfl rfl ?_
    refine e_push q_128 rfl ?_
    refine e_dup2 q_128 rfl ?_
    refine e_iald (j := 0) q_128 rfl rfl (by decide) (by decide +kernel) (by decide) ?_
    refine e_push q_128 rfl ?_
    refine e_bin (r := ((up (up (up (up (up σ 61 j1 x1) 61 j2 x2) 61 j3 (-1)) 61 j4 (-1)) 61 j5 (-1)) 61 0) + 1) q_128 rfl rfl ?_
    refine e_iast (j := 0) q_128 rfl rfl (by decide) (by decide +kernel) (by decide) ?_
    refine e_load q_128 rfl rfl rfl ?_
    exact e_ireturn q_128 rfl rfl h
  · replace h := h.2 c
    refine e_load q_128 rfl rfl rfl ?_
    refine e_load q_128 rfl rfl rfl ?_
    refine e_load q_128 rfl rfl rfl ?_
    refine e_push q_128 rfl ?_
    refine e_virt q_128 rfl rfl (Nat.le_of_ble_eq_true rfl) rfl rfl (Nat.le_of_ble_eq_true rfl) rfl ?_
    show Ev S d 123 0 [some (.inr (some 60)), some (.inl x3), some (.inl x4), some (.inl 0)] [] σ _
    refine e_load q_123 rfl rfl rfl ?_
    refine e_getR q_123 rfl rfl rfl ?_
    refine e_push q_123 rfl ?_
    refine e_push q_123 rfl ?_
    refine e_load q_123 rfl rfl rfl ?_
    refine e_bin (r := 9 * x3) q_123 rfl rfl ?_
    refine e_bin (r := 1 + (9 * x3)) q_123 rfl rfl ?_
    refine e_load q_123 rfl rfl rfl ?_
    refine e_bin (r := (1 + (9 * x3)) + x4) q_123 rfl rfl ?_
    refine e_load q_123 rfl rfl rfl ?_
    obtain ⟨j8, hjj8, hlj8, h⟩ := h
    refine e_iast q_123 rfl rfl (by decide) hjj8 hlj8 ?_
    refine e_return q_123 rfl rfl ?_
    show Ev S (d + 1) 128 41 [some (.inr (some 60)), some (.inl x1), some (.inl x2), some (.inl x3), some (.inl x4)] [] (up σ 61 j8 0) _
    refine e_iinc (ls' := [some (.inr (some 60)), some (.inl x1), some (.inl x2), some (.inl x3), some (.inl (x4 + 1))]) q_128 rfl rfl rfl ?_
    refine e_goto q_128 rfl ?_
    exact h
theorem g_129_0 {S : Nat × (Nat → Int32)} {d : Nat} {σ : Mem} {Q : MQ1} {x1 : Int32} {x2 : Int32}  (h : ((x1 < 0 → Q [.inl (-100001)] (up σ 60 6 ((σ 60 6) + 1))) ∧ (¬ (x1 < 0) → (((σ 61 0) ≤ x1 → Q [.inl (-100001)] (up σ 60 6 ((σ 60 6) + 1))) ∧ (¬ ((σ 61 0) ≤ x1) → ((x2 < 0 → Q [.inl (-100001)] (up σ 60 6 ((σ 60 6) + 1))) ∧ (¬ (x2 < 0) → ((3 < x2 → Q [.inl (-100001)] (up σ 60 6 ((σ 60 6) + 1))) ∧ (¬ (3 < x2) → (∃ j2 : Nat, (1 + (9 * x1)) + 0 = nI j2 ∧ j2 < 86 ∧ ((x2 = 0 → Q [.inl x1] σ) ∧ (¬ (x2 = 0) → ((x2 = (σ 61 j2) → Q [.inl x1] σ) ∧ (¬ (x2 = (σ 61 j2)) → (((¬ x2 = 1) → Q [.inl (-100004)] (up σ 60 6 ((σ 60 6) + 1))) ∧ (¬ (¬ x2 = 1) → (((¬ (σ 61 j2) = 3) → Q [.inl (-100004)] (up σ 60 6 ((σ 60 6) + 1))) ∧ (¬ (¬ (σ 61 j2) = 3) → Q [.inl x1] σ)))))))))))))))))) : Ev S (d + 1) 129 0 [some (.inr (some 60)), some (.inl x1), some (.inl x2), none] [] σ Q := by
  refine e_load q_129 rfl rfl rfl ?_
  refine e_load q_129 rfl rfl rfl ?_
  refine e_virt q_129 rfl rfl (Nat.le_of_ble_eq_true rfl) rfl rfl (Nat.le_of_ble_eq_true rfl) rfl ?_
  show Ev S d 120 0 [some (.inr (some 60)), some (.inl x1)] [] σ _
  refine e_load q_120 rfl rfl rfl ?_
  refine e_if (P := x1 < 0) q_120 rfl m_c2 (fun c => ?_) (fun c => ?_)
  · replace h := h.1 c
    refine e_push q_120 rfl ?_
    refine e_zreturn q_120 rfl rfl (by decide) ?_
    show Ev S (d + 1) 129 3 [some (.inr (some 60)), some (.inl x1), some (.inl x2), none] [.inl 0] σ _
    refine e_if (P := (0 : Int32) = 0) q_129 rfl m_c0 (fun _ => ?_) (fun c => absurd (by decide) c)
    refine e_load q_129 rfl rfl rfl ?_
    refine e_push q_129 rfl ?_
    refine e_virt q_129 rfl rfl (Nat.le_of_ble_eq_true rfl) rfl rfl (Nat.le_of_ble_eq_true rfl) rfl ?_
    show Ev S d 118 0 [some (.inr (some 60)), some (.inl (-100001))] [] σ _
    refine e_load q_118 rfl rfl rfl ?_
    refine e_dup q_118 rfl ?_
    refine e_getI q_118 rfl rfl rfl ?_
    refine e_push q_118 rfl ?_
    refine e_bin (r := (σ 60 6) + 1) q_118 rfl rfl ?_
    refine e_putI q_118 rfl rfl rfl ?_
    refine e_load q_118 rfl rfl rfl ?_
    refine e_ireturn q_118 rfl rfl ?_
    show Ev S (d + 1) 129 12 [some (.inr (some 60)), some (.inl x1), some (.inl x2), none] [.inl (-100001)] (up σ 60 6 ((σ 60 6) + 1)) _
    exact e_ireturn q_129 rfl rfl h
  · replace h := h.2 c
    refine e_load q_120 rfl rfl rfl ?_
    refine e_load q_120 rfl rfl rfl ?_
    refine e_getR q_120 rfl rfl rfl ?_
    refine e_push q_120 rfl ?_
    refine e_iald (j := 0) q_120 rfl rfl (by decide) (by decide +kernel) (by decide) ?_
    refine e_icmp (P := (σ 61 0) ≤ x1) q_120 rfl m_c3 (fun c => ?_) (fun c => ?_)
    · replace h := h.1 c
      refine e_push q_120 rfl ?_
      refine e_zreturn q_120 rfl rfl (by decide) ?_
      show Ev S (d + 1) 129 3 [some (.inr (some 60)), some (.inl x1), some (.inl x2), none] [.inl 0] σ _
      refine e_if (P := (0 : Int32) = 0) q_129 rfl m_c0 (fun _ => ?_) (fun c => absurd (by decide) c)
      refine e_load q_129 rfl rfl rfl ?_
      refine e_push q_129 rfl ?_
      refine e_virt q_129 rfl rfl (Nat.le_of_ble_eq_true rfl) rfl rfl (Nat.le_of_ble_eq_true rfl) rfl ?_
      show Ev S d 118 0 [some (.inr (some 60)), some (.inl (-100001))] [] σ _
      refine e_load q_118 rfl rfl rfl ?_
      refine e_dup q_118 rfl ?_
      refine e_getI q_118 rfl rfl rfl ?_
      refine e_push q_118 rfl ?_
      refine e_bin (r := (σ 60 6) + 1) q_118 rfl rfl ?_
      refine e_putI q_118 rfl rfl rfl ?_
      refine e_load q_118 rfl rfl rfl ?_
      refine e_ireturn q_118 rfl rfl ?_
      show Ev S (d + 1) 129 12 [some (.inr (some 60)), some (.inl x1), some (.inl x2), none] [.inl (-100001)] (up σ 60 6 ((σ 60 6) + 1)) _
      exact e_ireturn q_129 rfl rfl h
    · replace h := h.2 c
      refine e_push q_120 rfl ?_
      refine e_goto q_120 rfl ?_
      refine e_zreturn q_120 rfl rfl (by decide) ?_
      show Ev S (d + 1) 129 3 [some (.inr (some 60)), some (.inl x1), some (.inl x2), none] [.inl 1] σ _
      refine e_if (P := (1 : Int32) = 0) q_129 rfl m_c0 (fun c => absurd c (by decide)) (fun _ => ?_)
      refine e_load q_129 rfl rfl rfl ?_
      refine e_push q_129 rfl ?_
      refine e_push q_129 rfl ?_
      refine e_stat q_129 rfl (Nat.le_of_ble_eq_true rfl) rfl rfl (Nat.le_of_ble_eq_true rfl) ?_
      show Ev S d 119 0 [some (.inl x2), some (.inl 0), some (.inl 3)] [] σ _
      refine e_load q_119 rfl rfl rfl ?_
      refine e_load q_119 rfl rfl rfl ?_
      refine e_icmp (P := x2 < 0) q_119 rfl m_c2 (fun c => ?_) (fun c => ?_)
      · replace h := h.1 c
        refine e_push q_119 rfl ?_
        refine e_zreturn q_119 rfl rfl (by decide) ?_
        show Ev S (d + 1) 129 8 [some (.inr (some 60)), some (.inl x1), some (.inl x2), none] [.inl 0] σ _
        refine e_if (P := ¬ (0 : Int32) = 0) q_129 rfl m_c1 (fun c => absurd c (by decide)) (fun _ => ?_)
        refine e_load q_129 rfl rfl rfl ?_
        refine e_push q_129 rfl ?_
        refine e_virt q_129 rfl rfl (Nat.le_of_ble_eq_true rfl) rfl rfl (Nat.le_of_ble_eq_true rfl) rfl ?_
        show Ev S d 118 0 [some (.inr (some 60)), some (.inl (-100001))] [] σ _
        refine e_load q_118 rfl rfl rfl ?_
        refine e_dup q_118 rfl ?_
        refine e_getI q_118 rfl rfl rfl ?_
        refine e_push q_118 rfl ?_
        refine e_bin (r := (σ 60 6) + 1) q_118 rfl rfl ?_
        refine e_putI q_118 rfl rfl rfl ?_
        refine e_load q_118 rfl rfl rfl ?_
        refine e_ireturn q_118 rfl rfl ?_
        show Ev S (d + 1) 129 12 [some (.inr (some 60)), some (.inl x1), some (.inl x2), none] [.inl (-100001)] (up σ 60 6 ((σ 60 6) + 1)) _
        exact e_ireturn q_129 rfl rfl h
      · replace h := h.2 c
        refine e_load q_119 rfl rfl rfl ?_
        refine e_load q_119 rfl rfl rfl ?_
        refine e_icmp (P := 3 < x2) q_119 rfl m_c4 (fun c => ?_) (fun c => ?_)
        · replace h := h.1 c
          refine e_push q_119 rfl ?_
          refine e_zreturn q_119 rfl rfl (by decide) ?_
          show Ev S (d + 1) 129 8 [some (.inr (some 60)), some (.inl x1), some (.inl x2), none] [.inl 0] σ _
          refine e_if (P := ¬ (0 : Int32) = 0) q_129 rfl m_c1 (fun c => absurd c (by decide)) (fun _ => ?_)
          refine e_load q_129 rfl rfl rfl ?_
          refine e_push q_129 rfl ?_
          refine e_virt q_129 rfl rfl (Nat.le_of_ble_eq_true rfl) rfl rfl (Nat.le_of_ble_eq_true rfl) rfl ?_
          show Ev S d 118 0 [some (.inr (some 60)), some (.inl (-100001))] [] σ _
          refine e_load q_118 rfl rfl rfl ?_
          refine e_dup q_118 rfl ?_
          refine e_getI q_118 rfl rfl rfl ?_
          refine e_push q_118 rfl ?_
          refine e_bin (r := (σ 60 6) + 1) q_118 rfl rfl ?_
          refine e_putI q_118 rfl rfl rfl ?_
          refine e_load q_118 rfl rfl rfl ?_
          refine e_ireturn q_118 rfl rfl ?_
          show Ev S (d + 1) 129 12 [some (.inr (some 60)), some (.inl x1), some (.inl x2), none] [.inl (-100001)] (up σ 60 6 ((σ 60 6) + 1)) _
          exact e_ireturn q_129 rfl rfl h
        · replace h := h.2 c
          refine e_push q_119 rfl ?_
          refine e_goto q_119 rfl ?_
          refine e_zreturn q_119 rfl rfl (by decide) ?_
          show Ev S (d + 1) 129 8 [some (.inr (some 60)), some (.inl x1), some (.inl x2), none] [.inl 1] σ _
          refine e_if (P := ¬ (1 : Int32) = 0) q_129 rfl m_c1 (fun _ => ?_) (fun c => absurd (by decide) c)
          refine e_load q_129 rfl rfl rfl ?_
          refine e_load q_129 rfl rfl rfl ?_
          refine e_push q_129 rfl ?_
          refine e_virt q_129 rfl rfl (Nat.le_of_ble_eq_true rfl) rfl rfl (Nat.le_of_ble_eq_true rfl) rfl ?_
          show Ev S d 122 0 [some (.inr (some 60)), some (.inl x1), some (.inl 0)] [] σ _
          refine e_load q_122 rfl rfl rfl ?_
          refine e_getR q_122 rfl rfl rfl ?_
          refine e_push q_122 rfl ?_
          refine e_push q_122 rfl ?_
          refine e_load q_122 rfl rfl rfl ?_
          refine e_bin (r := 9 * x1) q_122 rfl rfl ?_
          refine e_bin (r := 1 + (9 * x1)) q_122 rfl rfl ?_
          refine e_load q_122 rfl rfl rfl ?_
          refine e_bin (r := (1 + (9 * x1)) + 0) q_122 rfl rfl ?_
          obtain ⟨j2, hjj2, hlj2, h⟩ := h
          refine e_iald q_122 rfl rfl (by decide) hjj2 hlj2 ?_
          refine e_ireturn q_122 rfl rfl ?_
          show Ev S (d + 1) 129 17 [some (.inr (some 60)), some (.inl x1), some (.inl x2), none] [.inl (σ 61 j2)] σ _
          refine e_store (ls' := [some (.inr (some 60)), some (.inl x1), some (.inl x2), some (.inl (σ 61 j2))]) q_129 rfl (Nat.le_of_ble_eq_true rfl) rfl rfl ?_
          refine e_load q_129 rfl rfl rfl ?_
          refine e_if (P := x2 = 0) q_129 rfl m_c0 (fun c => ?_) (fun c => ?_)
          · replace h := h.1 c
            refine e_load q_129 rfl rfl rfl ?_
            refine e_goto q_129 rfl ?_
            exact e_ireturn q_129 rfl rfl h
          · replace h := h.2 c
            refine e_load q_129 rfl rfl rfl ?_
            refine e_load q_129 rfl rfl rfl ?_
            refine e_icmp (P := x2 = (σ 61 j2)) q_129 rfl m_c0 (fun c => ?_) (fun c => ?_)
            · replace h := h.1 c
              refine e_load q_129 rfl rfl rfl ?_
              refine e_goto q_129 rfl ?_
              exact e_ireturn q_129 rfl rfl h
            · replace h := h.2 c
              refine e_load q_129 rfl rfl rfl ?_
              refine e_push q_129 rfl ?_
              refine e_icmp (P := ¬ x2 = 1) q_129 rfl m_c1 (fun c => ?_) (fun c => ?_)
              · replace h := h.1 c
                refine e_load q_129 rfl rfl rfl ?_
                refine e_push q_129 rfl ?_
                refine e_virt q_129 rfl rfl (Nat.le_of_ble_eq_true rfl) rfl rfl (Nat.le_of_ble_eq_true rfl) rfl ?_
                show Ev S d 118 0 [some (.inr (some 60)), some (.inl (-100004))] [] σ _
                refine e_load q_118 rfl rfl rfl ?_
                refine e_dup q_118 rfl ?_
                refine e_getI q_118 rfl rfl rfl ?_
                refine e_push q_118 rfl ?_
                refine e_bin (r := (σ 60 6) + 1) q_118 rfl rfl ?_
                refine e_putI q_118 rfl rfl rfl ?_
                refine e_load q_118 rfl rfl rfl ?_
                refine e_ireturn q_118 rfl rfl ?_
                show Ev S (d + 1) 129 34 [some (.inr (some 60)), some (.inl x1), some (.inl x2), some (.inl (σ 61 j2))] [.inl (-100004)] (up σ 60 6 ((σ 60 6) + 1)) _
                exact e_ireturn q_129 rfl rfl h
              · replace h := h.2 c
                refine e_load q_129 rfl rfl rfl ?_
                refine e_push q_129 rfl ?_
                refine e_icmp (P := ¬ (σ 61 j2) = 3) q_129 rfl m_c1 (fun c => ?_) (fun c => ?_)
                · replace h := h.1 c
                  refine e_load q_129 rfl rfl rfl ?_
                  refine e_push q_129 rfl ?_
                  refine e_virt q_129 rfl rfl (Nat.le_of_ble_eq_true rfl) rfl rfl (Nat.le_of_ble_eq_true rfl) rfl ?_
                  show Ev S d 118 0 [some (.inr (some 60)), some (.inl (-100004))] [] σ _
                  refine e_load q_118 rfl rfl rfl ?_
                  refine e_dup q_118 rfl ?_
                  refine e_getI q_118 rfl rfl rfl ?_
                  refine e_push q_118 rfl ?_
                  refine e_bin (r := (σ 60 6) + 1) q_118 rfl rfl ?_
                  refine e_putI q_118 rfl rfl rfl ?_
                  refine e_load q_118 rfl rfl rfl ?_
                  refine e_ireturn q_118 rfl rfl ?_
                  show Ev S (d + 1) 129 34 [some (.inr (some 60)), some (.inl x1), some (.inl x2), some (.inl (σ 61 j2))] [.inl (-100004)] (up σ 60 6 ((σ 60 6) + 1)) _
                  exact e_ireturn q_129 rfl rfl h
                · replace h := h.2 c
                  refine e_load q_129 rfl rfl rfl ?_
                  refine e_goto q_129 rfl ?_
                  exact e_ireturn q_129 rfl rfl h
theorem g_130_0 {S : Nat × (Nat → Int32)} {d : Nat} {σ : Mem} {Q : MQ1} {x1 : Int32}  (h : (∃ j1 : Nat, (1 + (9 * x1)) + 2 = nI j1 ∧ j1 < 86 ∧ Ev S (d + 1) 130 7 [some (.inr (some 60)), some (.inl x1), some (.inl (σ 61 j1)), some (.inl (-1)), none] [] σ Q)) : Ev S (d + 1) 130 0 [some (.inr (some 60)), some (.inl x1), none, none, none] [] σ Q := by
  refine e_load q_130 rfl rfl rfl ?_
  refine e_load q_130 rfl rfl rfl ?_
  refine e_push q_130 rfl ?_
  refine e_virt q_130 rfl rfl (Nat.le_of_ble_eq_true rfl) rfl rfl (Nat.le_of_ble_eq_true rfl) rfl ?_
  show Ev S d 122 0 [some (.inr (some 60)), some (.inl x1), some (.inl 2)] [] σ _
  refine e_load q_122 rfl rfl rfl ?_
  refine e_getR q_122 rfl rfl rfl ?_
  refine e_push q_122 rfl ?_
  refine e_push q_122 rfl ?_
  refine e_load q_122 rfl rfl rfl ?_
  refine e_bin (r := 9 * x1) q_122 rfl rfl ?_
  refine e_bin (r := 1 + (9 * x1)) q_122 rfl rfl ?_
  refine e_load q_122 rfl rfl rfl ?_
  refine e_bin (r := (1 + (9 * x1)) + 2) q_122 rfl rfl ?_
  obtain ⟨j1, hjj1, hlj1, h⟩ := h
  refine e_iald q_122 rfl rfl (by decide) hjj1 hlj1 ?_
  refine e_ireturn q_122 rfl rfl ?_
  show Ev S (d + 1) 130 4 [some (.inr (some 60)), some (.inl x1), none, none, none] [.inl (σ 61 j1)] σ _
  refine e_store (ls' := [some (.inr (some 60)), some (.inl x1), some (.inl (σ 61 j1)), none, none]) q_130 rfl (Nat.le_of_ble_eq_true rfl) rfl rfl ?_
  refine e_push q_130 rfl ?_
  refine e_store (ls' := [some (.inr (some 60)), some (.inl x1), some (.inl (σ 61 j1)), some (.inl (-1)), none]) q_130 rfl (Nat.le_of_ble_eq_true rfl) rfl rfl ?_
  exact h
theorem g_130_7 {S : Nat × (Nat → Int32)} {d : Nat} {σ : Mem} {Q : MQ1} {o1 : Option MV} {x2 : Int32} {x3 : Int32} {o4 : Option MV}  (h : ((x3 = x2 → Q [.inl x2] σ) ∧ (¬ (x3 = x2) → Ev S (d + 1) 130 14 [some (.inr (some 60)), o1, some (.inl x2), some (.inl x2), some (.inl 0)] [] σ Q))) : Ev S (d + 1) 130 7 [some (.inr (some 60)), o1, some (.inl x2), some (.inl x3), o4] [] σ Q := by
  refine e_load q_130 rfl rfl rfl ?_
  refine e_load q_130 rfl rfl rfl ?_
  refine e_icmp (P := x3 = x2) q_130 rfl m_c0 (fun c => ?_) (fun c => ?_)
  · replace h := h.1 c
    refine e_load q_130 rfl rfl rfl ?_
    exact e_ireturn q_130 rfl rfl h
  · replace h := h.2 c
    refine e_load q_130 rfl rfl rfl ?_
    refine e_store (ls' := [some (.inr (some 60)), o1, some (.inl x2), some (.inl x2), o4]) q_130 rfl (Nat.le_of_ble_eq_true rfl) rfl rfl ?_
    refine e_push q_130 rfl ?_
    refine e_store (ls' := [some (.inr (some 60)), o1, some (.inl x2), some (.inl x2), some (.inl 0)]) q_130 rfl (Nat.le_of_ble_eq_true rfl) rfl rfl ?_
    exact h
theorem g_130_14 {S : Nat × (Nat → Int32)} {d : Nat} {σ : Mem} {Q : MQ1} {o1 : Option MV} {x2 : Int32} {x3 : Int32} {x4 : Int32}  (h : (((σ 61 0) ≤ x4 → Ev S (d + 1) 130 7 [some (.inr (some 60)), o1, some (.inl x2), some (.inl x3), some (.inl x4)] [] σ Q) ∧ (¬ ((σ 61 0) ≤ x4) → (((¬ ((x2 >>> (x4 &&& 31)) &&& 1) = 1) → Ev S (d + 1) 130 14 [some (.inr (some 60)), o1, some (.inl (x2 ||| 0)), some (.inl x3), some (.inl (x4 + 1))] [] σ Q) ∧ (¬ (¬ ((x2 >>> (x4 &&& 31)) &&& 1) = 1) → (∃ j2 : Nat, (1 + (9 * x4)) + 2 = nI j2 ∧ j2 < 86 ∧ Ev S (d + 1) 130 14 [some (.inr (some 60)), o1, some (.inl (x2 ||| (σ 61 j2))), some (.inl x3), some (.inl (x4 + 1))] [] σ Q)))))) : Ev S (d + 1) 130 14 [some (.inr (some 60)), o1, some (.inl x2), some (.inl x3), some (.inl x4)] [] σ Q := by
  refine e_load q_130 rfl rfl rfl ?_
  refine e_load q_130 rfl rfl rfl ?_
  refine e_getR q_130 rfl rfl rfl ?_
  refine e_push q_130 rfl ?_
  refine e_iald (j := 0) q_130 rfl rfl (by decide) (by decide +kernel) (by decide) ?_
  refine e_icmp (P := (σ 61 0) ≤ x4) q_130 rfl m_c3 (fun c => ?_) (fun c => ?_)
  · replace h := h.1 c
    refine e_goto q_130 rfl ?_
    exact h
  · replace h := h.2 c
    refine e_load q_130 rfl rfl rfl ?_
    refine e_load q_130 rfl rfl rfl ?_
    refine e_load q_130 rfl rfl rfl ?_
    refine e_bin (r := x2 >>> (x4 &&& 31)) q_130 rfl rfl ?_
    refine e_push q_130 rfl ?_
    refine e_bin (r := (x2 >>> (x4 &&& 31)) &&& 1) q_130 rfl rfl ?_
    refine e_push q_130 rfl ?_
    refine e_icmp (P := ¬ ((x2 >>> (x4 &&& 31)) &&& 1) = 1) q_130 rfl m_c1 (fun c => ?_) (fun c => ?_)
    · replace h := h.1 c
      refine e_push q_130 rfl ?_
      refine e_bin (r := x2 ||| 0) q_130 rfl rfl ?_
      refine e_store (ls' := [some (.inr (some 60)), o1, some (.inl (x2 ||| 0)), some (.inl x3), some (.inl x4)]) q_130 rfl (Nat.le_of_ble_eq_true rfl) rfl rfl ?_
      refine e_iinc (ls' := [some (.inr (some 60)), o1, some (.inl (x2 ||| 0)), some (.inl x3), some (.inl (x4 + 1))]) q_130 rfl rfl rfl ?_
      refine e_goto q_130 rfl ?_
      exact h
    · replace h := h.2 c
      refine e_load q_130 rfl rfl rfl ?_
      refine e_load q_130 rfl rfl rfl ?_
      refine e_push q_130 rfl ?_
      refine e_virt q_130 rfl rfl (Nat.le_of_ble_eq_true rfl) rfl rfl (Nat.le_of_ble_eq_true rfl) rfl ?_
      show Ev S d 122 0 [some (.inr (some 60)), some (.inl x4), some (.inl 2)] [] σ _
      refine e_load q_122 rfl rfl rfl ?_
      refine e_getR q_122 rfl rfl rfl ?_
      refine e_push q_122 rfl ?_
      refine e_push q_122 rfl ?_
      refine e_load q_122 rfl rfl rfl ?_
      refine e_bin (r := 9 * x4) q_122 rfl rfl ?_
      refine e_bin (r := 1 + (9 * x4)) q_122 rfl rfl ?_
      refine e_load q_122 rfl rfl rfl ?_
      refine e_bin (r := (1 + (9 * x4)) + 2) q_122 rfl rfl ?_
      obtain ⟨j2, hjj2, hlj2, h⟩ := h
      refine e_iald q_122 rfl rfl (by decide) hjj2 hlj2 ?_
      refine e_ireturn q_122 rfl rfl ?_
      show Ev S (d + 1) 130 32 [some (.inr (some 60)), o1, some (.inl x2), some (.inl x3), some (.inl x4)] [.inl (σ 61 j2), .inl x2] σ _
      refine e_goto q_130 rfl ?_
      refine e_bin (r := x2 ||| (σ 61 j2)) q_130 rfl rfl ?_
      refine e_store (ls' := [some (.inr (some 60)), o1, some (.inl (x2 ||| (σ 61 j2))), some (.inl x3), some (.inl x4)]) q_130 rfl (Nat.le_of_ble_eq_true rfl) rfl rfl ?_
      refine e_iinc (ls' := [some (.inr (some 60)), o1, some (.inl (x2 ||| (σ 61 j2))), some (.inl x3), some (.inl (x4 + 1))]) q_130 rfl rfl rfl ?_
      refine e_goto q_130 rfl ?_
      exact h
theorem g_131_0 {S : Nat × (Nat → Int32)} {d : Nat} {σ : Mem} {Q : MQ1} {x1 : Int32} {x2 : Int32} {x3 : Int32}  (h : ((x1 < 0 → Q [.inl (-100001)] (up σ 60 6 ((σ 60 6) + 1))) ∧ (¬ (x1 < 0) → (((σ 61 0) ≤ x1 → Q [.inl (-100001)] (up σ 60 6 ((σ 60 6) + 1))) ∧ (¬ ((σ 61 0) ≤ x1) → ((x2 < 0 → Q [.inl (-100001)] (up σ 60 6 ((σ 60 6) + 1))) ∧ (¬ (x2 < 0) → (((σ 61 0) ≤ x2 → Q [.inl (-100001)] (up σ 60 6 ((σ 60 6) + 1))) ∧ (¬ ((σ 61 0) ≤ x2) → ((x3 = 0 → Ec S (d + 1) 126 [.inr (some 60)] σ (fun rv σ' => Ev S (d + 2) 131 32 [some (.inr (some 60)), some (.inl x1), some (.inl x2), some (.inl x3), none] (rv ++ []) σ' Q)) ∧ (¬ (x3 = 0) → ((x1 = x2 → Q [.inl (-100007)] (up σ 60 6 ((σ 60 6) + 1))) ∧ (¬ (x1 = x2) → Ec S (d + 1) 130 [.inr (some 60), .inl x2] σ (fun rv σ' => Ev S (d + 2) 131 20 [some (.inr (some 60)), some (.inl x1), some (.inl x2), some (.inl x3), none] (rv ++ []) σ' Q)))))))))))))) : Ev S (d + 2) 131 0 [some (.inr (some 60)), some (.inl x1), some (.inl x2), some (.inl x3), none] [] σ Q := by
  refine e_load q_131 rfl rfl rfl ?_
  refine e_load q_131 rfl rfl rfl ?_
  refine e_virt q_131 rfl rfl (Nat.le_of_ble_eq_true rfl) rfl rfl (Nat.le_of_ble_eq_true rfl) rfl ?_
  show Ev S (d + 1) 120 0 [some (.inr (some 60)), some (.inl x1)] [] σ _
  refine e_load q_120 rfl rfl rfl ?_
  refine e_if (P := x1 < 0) q_120 rfl m_c2 (fun c => ?_) (fun c => ?_)
  · replace h := h.1 c
    refine e_push q_120 rfl ?_
    refine e_zreturn q_120 rfl rfl (by decide) ?_
    show Ev S (d + 2) 131 3 [some (.inr (some 60)), some (.inl x1), some (.inl x2), some (.inl x3), none] [.inl 0] σ _
    refine e_if (P := (0 : Int32) = 0) q_131 rfl m_c0 (fun _ => ?_) (fun c => absurd (by decide) c)
    refine e_load q_131 rfl rfl rfl ?_
    refine e_push q_131 rfl ?_
    refine e_virt q_131 rfl rfl (Nat.le_of_ble_eq_true rfl) rfl rfl (Nat.le_of_ble_eq_true rfl) rfl ?_
    show Ev S (d + 1) 118 0 [some (.inr (some 60)), some (.inl (-100001))] [] σ _
    refine e_load q_118 rfl rfl rfl ?_
    refine e_dup q_118 rfl ?_
    refine e_getI q_118 rfl rfl rfl ?_
    refine e_push q_118 rfl ?_
    refine e_bin (r := (σ 60 6) + 1) q_118 rfl rfl ?_
    refine e_putI q_118 rfl rfl rfl ?_
    refine e_load q_118 rfl rfl rfl ?_
    refine e_ireturn q_118 rfl rfl ?_
    show Ev S (d + 2) 131 11 [some (.inr (some 60)), some (.inl x1), some (.inl x2), some (.inl x3), none] [.inl (-100001)] (up σ 60 6 ((σ 60 6) + 1)) _
    exact e_ireturn q_131 rfl rfl h
  · replace h := h.2 c
    refine e_load q_120 rfl rfl rfl ?_
    refine e_load q_120 rfl rfl rfl ?_
    refine e_getR q_120 rfl rfl rfl ?_
    refine e_push q_120 rfl ?_
    refine e_iald (j := 0) q_120 rfl rfl (by decide) (by decide +kernel) (by decide) ?_
    refine e_icmp (P := (σ 61 0) ≤ x1) q_120 rfl m_c3 (fun c => ?_) (fun c => ?_)
    · replace h := h.1 c
      refine e_push q_120 rfl ?_
      refine e_zreturn q_120 rfl rfl (by decide) ?_
      show Ev S (d + 2) 131 3 [some (.inr (some 60)), some (.inl x1), some (.inl x2), some (.inl x3), none] [.inl 0] σ _
      refine e_if (P := (0 : Int32) = 0) q_131 rfl m_c0 (fun _ => ?_) (fun c => absurd (by decide) c)
      refine e_load q_131 rfl rfl rfl ?_
      refine e_push q_131 rfl ?_
      refine e_virt q_131 rfl rfl (Nat.le_of_ble_eq_true rfl) rfl rfl (Nat.le_of_ble_eq_true rfl) rfl ?_
      show Ev S (d + 1) 118 0 [some (.inr (some 60)), some (.inl (-100001))] [] σ _
      refine e_load q_118 rfl rfl rfl ?_
      refine e_dup q_118 rfl ?_
      refine e_getI q_118 rfl rfl rfl ?_
      refine e_push q_118 rfl ?_
      refine e_bin (r := (σ 60 6) + 1) q_118 rfl rfl ?_
      refine e_putI q_118 rfl rfl rfl ?_
      refine e_load q_118 rfl rfl rfl ?_
      refine e_ireturn q_118 rfl rfl ?_
      show Ev S (d + 2) 131 11 [some (.inr (some 60)), some (.inl x1), some (.inl x2), some (.inl x3), none] [.inl (-100001)] (up σ 60 6 ((σ 60 6) + 1)) _
      exact e_ireturn q_131 rfl rfl h
    · replace h := h.2 c
      refine e_push q_120 rfl ?_
      refine e_goto q_120 rfl ?_
      refine e_zreturn q_120 rfl rfl (by decide) ?_
      show Ev S (d + 2) 131 3 [some (.inr (some 60)), some (.inl x1), some (.inl x2), some (.inl x3), none] [.inl 1] σ _
      refine e_if (P := (1 : Int32) = 0) q_131 rfl m_c0 (fun c => absurd c (by decide)) (fun _ => ?_)
      refine e_load q_131 rfl rfl rfl ?_
      refine e_load q_131 rfl rfl rfl ?_
      refine e_virt q_131 rfl rfl (Nat.le_of_ble_eq_true rfl) rfl rfl (Nat.le_of_ble_eq_true rfl) rfl ?_
      show Ev S (d + 1) 120 0 [some (.inr (some 60)), some (.inl x2)] [] σ _
      refine e_load q_120 rfl rfl rfl ?_
      refine e_if (P := x2 < 0) q_120 rfl m_c2 (fun c => ?_) (fun c => ?_)
      · replace h := h.1 c
        refine e_push q_120 rfl ?_
        refine e_zreturn q_120 rfl rfl (by decide) ?_
        show Ev S (d + 2) 131 7 [some (.inr (some 60)), some (.inl x1), some (.inl x2), some (.inl x3), none] [.inl 0] σ _
        refine e_if (P := ¬ (0 : Int32) = 0) q_131 rfl m_c1 (fun c => absurd c (by decide)) (fun _ => ?_)
        refine e_load q_131 rfl rfl rfl ?_
        refine e_push q_131 rfl ?_
        refine e_virt q_131 rfl rfl (Nat.le_of_ble_eq_true rfl) rfl rfl (Nat.le_of_ble_eq_true rfl) rfl ?_
        show Ev S (d + 1) 118 0 [some (.inr (some 60)), some (.inl (-100001))] [] σ _
        refine e_load q_118 rfl rfl rfl ?_
        refine e_dup q_118 rfl ?_
        refine e_getI q_118 rfl rfl rfl ?_
        refine e_push q_118 rfl ?_
        refine e_bin (r := (σ 60 6) + 1) q_118 rfl rfl ?_
        refine e_putI q_118 rfl rfl rfl ?_
        refine e_load q_118 rfl rfl rfl ?_
        refine e_ireturn q_118 rfl rfl ?_
        show Ev S (d + 2) 131 11 [some (.inr (some 60)), some (.inl x1), some (.inl x2), some (.inl x3), none] [.inl (-100001)] (up σ 60 6 ((σ 60 6) + 1)) _
        exact e_ireturn q_131 rfl rfl h
      · replace h := h.2 c
        refine e_load q_120 rfl rfl rfl ?_
        refine e_load q_120 rfl rfl rfl ?_
        refine e_getR q_120 rfl rfl rfl ?_
        refine e_push q_120 rfl ?_
        refine e_iald (j := 0) q_120 rfl rfl (by decide) (by decide +kernel) (by decide) ?_
        refine e_icmp (P := (σ 61 0) ≤ x2) q_120 rfl m_c3 (fun c => ?_) (fun c => ?_)
        · replace h := h.1 c
          refine e_push q_120 rfl ?_
          refine e_zreturn q_120 rfl rfl (by decide) ?_
          show Ev S (d + 2) 131 7 [some (.inr (some 60)), some (.inl x1), some (.inl x2), some (.inl x3), none] [.inl 0] σ _
          refine e_if (P := ¬ (0 : Int32) = 0) q_131 rfl m_c1 (fun c => absurd c (by decide)) (fun _ => ?_)
          refine e_load q_131 rfl rfl rfl ?_
          refine e_push q_131 rfl ?_
          refine e_virt q_131 rfl rfl (Nat.le_of_ble_eq_true rfl) rfl rfl (Nat.le_of_ble_eq_true rfl) rfl ?_
          show Ev S (d + 1) 118 0 [some (.inr (some 60)), some (.inl (-100001))] [] σ _
          refine e_load q_118 rfl rfl rfl ?_
          refine e_dup q_118 rfl ?_
          refine e_getI q_118 rfl rfl rfl ?_
          refine e_push q_118 rfl ?_
          refine e_bin (r := (σ 60 6) + 1) q_118 rfl rfl ?_
          refine e_putI q_118 rfl rfl rfl ?_
          refine e_load q_118 rfl rfl rfl ?_
          refine e_ireturn q_118 rfl rfl ?_
          show Ev S (d + 2) 131 11 [some (.inr (some 60)), some (.inl x1), some (.inl x2), some (.inl x3), none] [.inl (-100001)] (up σ 60 6 ((σ 60 6) + 1)) _
          exact e_ireturn q_131 rfl rfl h
        · replace h := h.2 c
          refine e_push q_120 rfl ?_
          refine e_goto q_120 rfl ?_
          refine e_zreturn q_120 rfl rfl (by decide) ?_
          show Ev S (d + 2) 131 7 [some (.inr (some 60)), some (.inl x1), some (.inl x2), some (.inl x3), none] [.inl 1] σ _
          refine e_if (P := ¬ (1 : Int32) = 0) q_131 rfl m_c1 (fun _ => ?_) (fun c => absurd (by decide) c)
          refine e_load q_131 rfl rfl rfl ?_
          refine e_if (P := x3 = 0) q_131 rfl m_c0 (fun c => ?_) (fun c => ?_)
          · replace h := h.1 c
            refine e_load q_131 rfl rfl rfl ?_
            exact e_virt q_131 rfl rfl (Nat.le_of_ble_eq_true rfl) rfl rfl (Nat.le_of_ble_eq_true rfl) rfl h
          · replace h := h.2 c
            refine e_load q_131 rfl rfl rfl ?_
            refine e_load q_131 rfl rfl rfl ?_
            refine e_icmp (P := x1 = x2) q_131 rfl m_c0 (fun c => ?_) (fun c => ?_)
            · replace h := h.1 c
              refine e_load q_131 rfl rfl rfl ?_
              refine e_push q_131 rfl ?_
              refine e_virt q_131 rfl rfl (Nat.le_of_ble_eq_true rfl) rfl rfl (Nat.le_of_ble_eq_true rfl) rfl ?_
              show Ev S (d + 1) 118 0 [some (.inr (some 60)), some (.inl (-100007))] [] σ _
              refine e_load q_118 rfl rfl rfl ?_
              refine e_dup q_118 rfl ?_
              refine e_getI q_118 rfl rfl rfl ?_
              refine e_push q_118 rfl ?_
              refine e_bin (r := (σ 60 6) + 1) q_118 rfl rfl ?_
              refine e_putI q_118 rfl rfl rfl ?_
              refine e_load q_118 rfl rfl rfl ?_
              refine e_ireturn q_118 rfl rfl ?_
              show Ev S (d + 2) 131 29 [some (.inr (some 60)), some (.inl x1), some (.inl x2), some (.inl x3), none] [.inl (-100007)] (up σ 60 6 ((σ 60 6) + 1)) _
              exact e_ireturn q_131 rfl rfl h
            · replace h := h.2 c
              refine e_load q_131 rfl rfl rfl ?_
              refine e_load q_131 rfl rfl rfl ?_
              exact e_virt q_131 rfl rfl (Nat.le_of_ble_eq_true rfl) rfl rfl (Nat.le_of_ble_eq_true rfl) rfl h
theorem g_131_32 {S : Nat × (Nat → Int32)} {d : Nat} {σ : Mem} {Q : MQ1} {x1 : Int32} {x2 : Int32} {x3 : Int32} {o4 : Option MV}  (h : (∃ j1 : Nat, (1 + (9 * x1)) + 2 = nI j1 ∧ j1 < 86 ∧ ((x3 = 0 → (∃ j2 : Nat, (1 + (9 * x1)) + 2 = nI j2 ∧ j2 < 86 ∧ (∃ j3 : Nat, (1 + (9 * x1)) + 2 = nI j3 ∧ j3 < 86 ∧ ((x3 = 0 → (((¬ (((σ 61 j1) >>> (x2 &&& 31)) &&& 1) = 0) → Q [.inl 1] (up σ 61 j3 ((σ 61 j2) &&& ((1 <<< (x2 &&& 31)) ^^^ (-1))))) ∧ (¬ (¬ (((σ 61 j1) >>> (x2 &&& 31)) &&& 1) = 0) → Q [.inl 0] (up σ 61 j3 ((σ 61 j2) &&& ((1 <<< (x2 &&& 31)) ^^^ (-1))))))) ∧ (¬ (x3 = 0) → (((¬ (((σ 61 j1) >>> (x2 &&& 31)) &&& 1) = 1) → Q [.inl 1] (up σ 61 j3 ((σ 61 j2) &&& ((1 <<< (x2 &&& 31)) ^^^ (-1))))) ∧ (¬ (¬ (((σ 61 j1) >>> (x2 &&& 31)) &&& 1) = 1) → Q [.inl 0] (up σ 61 j3 ((σ 61 j2) &&& ((1 <<< (x2 &&& 31)) ^^^ (-1))))))))))) ∧ (¬ (x3 = 0) → (∃ j4 : Nat, (1 + (9 * x1)) + 2 = nI j4 ∧ j4 < 86 ∧ (∃ j5 : Nat, (1 + (9 * x1)) + 2 = nI j5 ∧ j5 < 86 ∧ ((x3 = 0 → (((¬ (((σ 61 j1) >>> (x2 &&& 31)) &&& 1) = 0) → Q [.inl 1] (up σ 61 j5 ((σ 61 j4) ||| (1 <<< (x2 &&& 31))))) ∧ (¬ (¬ (((σ 61 j1) >>> (x2 &&& 31)) &&& 1) = 0) → Q [.inl 0] (up σ 61 j5 ((σ 61 j4) ||| (1 <<< (x2 &&& 31))))))) ∧ (¬ (x3 = 0) → (((¬ (((σ 61 j1) >>> (x2 &&& 31)) &&& 1) = 1) → Q [.inl 1] (up σ 61 j5 ((σ 61 j4) ||| (1 <<< (x2 &&& 31))))) ∧ (¬ (¬ (((σ 61 j1) >>> (x2 &&& 31)) &&& 1) = 1) → Q [.inl 0] (up σ 61 j5 ((σ 61 j4) ||| (1 <<< (x2 &&& 31)))))))))))))) : Ev S (d + 2) 131 32 [some (.inr (some 60)), some (.inl x1), some (.inl x2), some (.inl x3), o4] [] σ Q := by
  refine e_load q_131 rfl rfl rfl ?_
  refine e_load q_131 rfl rfl rfl ?_
  refine e_push q_131 rfl ?_
  refine e_virt q_131 rfl rfl (Nat.le_of_ble_eq_true rfl) rfl rfl (Nat.le_of_ble_eq_true rfl) rfl ?_
  show Ev S (d + 1) 122 0 [some (.inr (some 60)), some (.inl x1), some (.inl 2)] [] σ _
  refine e_load q_122 rfl rfl rfl ?_
  refine e_getR q_122 rfl rfl rfl ?_
  refine e_push q_122 rfl ?_
  refine e_push q_122 rfl ?_
  refine e_load q_122 rfl rfl rfl ?_
  refine e_bin (r := 9 * x1) q_122 rfl rfl ?_
  refine e_bin (r := 1 + (9 * x1)) q_122 rfl rfl ?_
  refine e_load q_122 rfl rfl rfl ?_
  refine e_bin (r := (1 + (9 * x1)) + 2) q_122 rfl rfl ?_
  obtain ⟨j1, hjj1, hlj1, h⟩ := h
  refine e_iald q_122 rfl rfl (by decide) hjj1 hlj1 ?_
  refine e_ireturn q_122 rfl rfl ?_
  show Ev S (d + 2) 131 36 [some (.inr (some 60)), some (.inl x1), some (.inl x2), some (.inl x3), o4] [.inl (σ 61 j1)] σ _
  refine e_load q_131 rfl rfl rfl ?_
  refine e_bin (r := (σ 61 j1) >>> (x2 &&& 31)) q_131 rfl rfl ?_
  refine e_push q_131 rfl ?_
  refine e_bin (r := ((σ 61 j1) >>> (x2 &&& 31)) &&& 1) q_131 rfl rfl ?_
  refine e_store (ls' := [some (.inr (some 60)), some (.inl x1), some (.inl x2), some (.inl x3), some (.inl (((σ 61 j1) >>> (x2 &&& 31)) &&& 1))]) q_131 rfl (Nat.le_of_ble_eq_true rfl) rfl rfl ?_
  refine e_load q_131 rfl rfl rfl ?_
  refine e_load q_131 rfl rfl rfl ?_
  refine e_push q_131 rfl ?_
  refine e_load q_131 rfl rfl rfl ?_
  refine e_if (P := x3 = 0) q_131 rfl m_c0 (fun c => ?_) (fun c => ?_)
  · replace h := h.1 c
    refine e_load q_131 rfl rfl rfl ?_
    refine e_load q_131 rfl rfl rfl ?_
    refine e_push q_131 rfl ?_
    refine e_virt q_131 rfl rfl (Nat.le_of_ble_eq_true rfl) rfl rfl (Nat.le_of_ble_eq_true rfl) rfl ?_
    show Ev S (d + 1) 122 0 [some (.inr (some 60)), some (.inl x1), some (.inl 2)] [] σ _
    refine e_load q_122 rfl rfl rfl ?_
    refine e_getR q_122 rfl rfl rfl ?_
    refine e_push q_122 rfl ?_
    refine e_push q_122 rfl ?_
    refine e_load q_122 rfl rfl rfl ?_
    refine e_bin (r := 9 * x1) q_122 rfl rfl ?_
    refine e_bin (r := 1 + (9 * x1)) q_122 rfl rfl ?_
    refine e_load q_122 rfl rfl rfl ?_
    refine e_bin (r := (1 + (9 * x1)) + 2) q_122 rfl rfl ?_
    obtain ⟨j2, hjj2, hlj2, h⟩ := h
    refine e_iald q_122 rfl rfl (by decide) hjj2 hlj2 ?_
    refine e_ireturn q_122 rfl rfl ?_
    show Ev S (d + 2) 131 59 [some (.inr (some 60)), some (.inl x1), some (.inl x2), some (.inl x3), some (.inl (((σ 61 j1) >>> (x2 &&& 31)) &&& 1))] [.inl (σ 61 j2), .inl 2, .inl x1, .inr (some 60)] σ _
    refine e_push q_131 rfl ?_
    refine e_load q_131 rfl rfl rfl ?_
    refine e_bin (r := 1 <<< (x2 &&& 31)) q_131 rfl rfl ?_
    refine e_push q_131 rfl ?_
    refine e_bin (r := (1 <<< (x2 &&& 31)) ^^^ (-1)) q_131 rfl rfl ?_
    refine e_bin (r := (σ 61 j2) &&& ((1 <<< (x2 &&& 31)) ^^^ (-1))) q_131 rfl rfl ?_
    refine e_virt q_131 rfl rfl (Nat.le_of_ble_eq_true rfl) rfl rfl (Nat.le_of_ble_eq_true rfl) rfl ?_
    show Ev S (d + 1) 123 0 [some (.inr (some 60)), some (.inl x1), some (.inl 2), some (.inl ((σ 61 j2) &&& ((1 <<< (x2 &&& 31)) ^^^ (-1))))] [] σ _
    refine e_load q_123 rfl rfl rfl ?_
    refine e_getR q_123 rfl rfl rfl ?_
    refine e_push q_123 rfl ?_
    refine e_push q_123 rfl ?_
    refine e_load q_123 rfl rfl rfl ?_
    refine e_bin (r := 9 * x1) q_123 rfl rfl ?_
    refine e_bin (r := 1 + (9 * x1)) q_123 rfl rfl ?_
    refine e_load q_123 rfl rfl rfl ?_
    refine e_bin (r := (1 + (9 * x1)) + 2) q_123 rfl rfl ?_
    refine e_load q_123 rfl rfl rfl ?_
    obtain ⟨j3, hjj3, hlj3, h⟩ := h
    refine e_iast q_123 rfl rfl (by decide) hjj3 hlj3 ?_
    refine e_return q_123 rfl rfl ?_
    show Ev S (d + 2) 131 66 [some (.inr (some 60)), some (.inl x1), some (.inl x2), some (.inl x3), some (.inl (((σ 61 j1) >>> (x2 &&& 31)) &&& 1))] [] (up σ 61 j3 ((σ 61 j2) &&& ((1 <<< (x2 &&& 31)) ^^^ (-1)))) _
    refine e_load q_131 rfl rfl rfl ?_
    refine e_load q_131 rfl rfl rfl ?_
    refine e_if (P := x3 = 0) q_131 rfl m_c0 (fun c => ?_) (fun c => ?_)
    · replace h := h.1 c
      refine e_push q_131 rfl ?_
      refine e_icmp (P := ¬ (((σ 61 j1) >>> (x2 &&& 31)) &&& 1) = 0) q_131 rfl m_c1 (fun c => ?_) (fun c => ?_)
      · replace h := h.1 c
        refine e_push q_131 rfl ?_
        exact e_ireturn q_131 rfl rfl h
      · replace h := h.2 c
        refine e_push q_131 rfl ?_
        refine e_goto q_131 rfl ?_
        exact e_ireturn q_131 rfl rfl h
    · replace h := h.2 c
      refine e_push q_131 rfl ?_
      refine e_goto q_131 rfl ?_
      refine e_icmp (P := ¬ (((σ 61 j1) >>> (x2 &&& 31)) &&& 1) = 1) q_131 rfl m_c1 (fun c => ?_) (fun c => ?_)
      · replace h := h.1 c
        refine e_push q_131 rfl ?_
        exact e_ireturn q_131 rfl rfl h
      · replace h := h.2 c
        refine e_push q_131 rfl ?_
        refine e_goto q_131 rfl ?_
        exact e_ireturn q_131 rfl rfl h
  · replace h := h.2 c
    refine e_load q_131 rfl rfl rfl ?_
    refine e_load q_131 rfl rfl rfl ?_
    refine e_push q_131 rfl ?_
    refine e_virt q_131 rfl rfl (Nat.le_of_ble_eq_true rfl) rfl rfl (Nat.le_of_ble_eq_true rfl) rfl ?_
    show Ev S (d + 1) 122 0 [some (.inr (some 60)), some (.inl x1), some (.inl 2)] [] σ _
    refine e_load q_122 rfl rfl rfl ?_
    refine e_getR q_122 rfl rfl rfl ?_
    refine e_push q_122 rfl ?_
    refine e_push q_122 rfl ?_
    refine e_load q_122 rfl rfl rfl ?_
    refine e_bin (r := 9 * x1) q_122 rfl rfl ?_
    refine e_bin (r := 1 + (9 * x1)) q_122 rfl rfl ?_
    refine e_load q_122 rfl rfl rfl ?_
    refine e_bin (r := (1 + (9 * x1)) + 2) q_122 rfl rfl ?_
    obtain ⟨j4, hjj4, hlj4, h⟩ := h
    refine e_iald q_122 rfl rfl (by decide) hjj4 hlj4 ?_
    refine e_ireturn q_122 rfl rfl ?_
    show Ev S (d + 2) 131 50 [some (.inr (some 60)), some (.inl x1), some (.inl x2), some (.inl x3), some (.inl (((σ 61 j1) >>> (x2 &&& 31)) &&& 1))] [.inl (σ 61 j4), .inl 2, .inl x1, .inr (some 60)] σ _
    refine e_push q_131 rfl ?_
    refine e_load q_131 rfl rfl rfl ?_
    refine e_bin (r := 1 <<< (x2 &&& 31)) q_131 rfl rfl ?_
    refine e_bin (r := (σ 61 j4) ||| (1 <<< (x2 &&& 31))) q_131 rfl rfl ?_
    refine e_goto q_131 rfl ?_
    refine e_virt q_131 rfl rfl (Nat.le_of_ble_eq_true rfl) rfl rfl (Nat.le_of_ble_eq_true rfl) rfl ?_
    show Ev S (d + 1) 123 0 [some (.inr (some 60)), some (.inl x1), some (.inl 2), some (.inl ((σ 61 j4) ||| (1 <<< (x2 &&& 31))))] [] σ _
    refine e_load q_123 rfl rfl rfl ?_
    refine e_getR q_123 rfl rfl rfl ?_
    refine e_push q_123 rfl ?_
    refine e_push q_123 rfl ?_
    refine e_load q_123 rfl rfl rfl ?_
    refine e_bin (r := 9 * x1) q_123 rfl rfl ?_
    refine e_bin (r := 1 + (9 * x1)) q_123 rfl rfl ?_
    refine e_load q_123 rfl rfl rfl ?_
    refine e_bin (r := (1 + (9 * x1)) + 2) q_123 rfl rfl ?_
    refine e_load q_123 rfl rfl rfl ?_
    obtain ⟨j5, hjj5, hlj5, h⟩ := h
    refine e_iast q_123 rfl rfl (by decide) hjj5 hlj5 ?_
    refine e_return q_123 rfl rfl ?_
    show Ev S (d + 2) 131 66 [some (.inr (some 60)), some (.inl x1), some (.inl x2), some (.inl x3), some (.inl (((σ 61 j1) >>> (x2 &&& 31)) &&& 1))] [] (up σ 61 j5 ((σ 61 j4) ||| (1 <<< (x2 &&& 31)))) _
    refine e_load q_131 rfl rfl rfl ?_
    refine e_load q_131 rfl rfl rfl ?_
    refine e_if (P := x3 = 0) q_131 rfl m_c0 (fun c => ?_) (fun c => ?_)
    · replace h := h.1 c
      refine e_push q_131 rfl ?_
      refine e_icmp (P := ¬ (((σ 61 j1) >>> (x2 &&& 31)) &&& 1) = 0) q_131 rfl m_c1 (fun c => ?_) (fun c => ?_)
      · replace h := h.1 c
        refine e_push q_131 rfl ?_
        exact e_ireturn q_131 rfl rfl h
      · replace h := h.2 c
        refine e_push q_131 rfl ?_
        refine e_goto q_131 rfl ?_
        exact e_ireturn q_131 rfl rfl h
    · replace h := h.2 c
      refine e_push q_131 rfl ?_
      refine e_goto q_131 rfl ?_
      refine e_icmp (P := ¬ (((σ 61 j1) >>> (x2 &&& 31)) &&& 1) = 1) q_131 rfl m_c1 (fun c => ?_) (fun c => ?_)
      · replace h := h.1 c
        refine e_push q_131 rfl ?_
        exact e_ireturn q_131 rfl rfl h
      · replace h := h.2 c
        refine e_push q_131 rfl ?_
        refine e_goto q_131 rfl ?_
        exact e_ireturn q_131 rfl rfl h
theorem g_131_20 {S : Nat × (Nat → Int32)} {d : Nat} {σ : Mem} {Q : MQ1} {x1 : Int32} {x2 : Int32} {x3 : Int32} {o4 : Option MV} {y0 : Int32}  (h : (((¬ ((y0 >>> (x1 &&& 31)) &&& 1) = 1) → Ec S (d + 1) 126 [.inr (some 60)] σ (fun rv σ' => Ev S (d + 2) 131 32 [some (.inr (some 60)), some (.inl x1), some (.inl x2), some (.inl x3), o4] (rv ++ []) σ' Q)) ∧ (¬ (¬ ((y0 >>> (x1 &&& 31)) &&& 1) = 1) → Q [.inl (-100007)] (up σ 60 6 ((σ 60 6) + 1))))) : Ev S (d + 2) 131 20 [some (.inr (some 60)), some (.inl x1), some (.inl x2), some (.inl x3), o4] [.inl y0] σ Q := by
  refine e_load q_131 rfl rfl rfl ?_
  refine e_bin (r := y0 >>> (x1 &&& 31)) q_131 rfl rfl ?_
  refine e_push q_131 rfl ?_
  refine e_bin (r := (y0 >>> (x1 &&& 31)) &&& 1) q_131 rfl rfl ?_
  refine e_push q_131 rfl ?_
  refine e_icmp (P := ¬ ((y0 >>> (x1 &&& 31)) &&& 1) = 1) q_131 rfl m_c1 (fun c => ?_) (fun c => ?_)
  · replace h := h.1 c
    refine e_load q_131 rfl rfl rfl ?_
    exact e_virt q_131 rfl rfl (Nat.le_of_ble_eq_true rfl) rfl rfl (Nat.le_of_ble_eq_true rfl) rfl h
  · replace h := h.2 c
    refine e_load q_131 rfl rfl rfl ?_
    refine e_push q_131 rfl ?_
    refine e_virt q_131 rfl rfl (Nat.le_of_ble_eq_true rfl) rfl rfl (Nat.le_of_ble_eq_true rfl) rfl ?_
    show Ev S (d + 1) 118 0 [some (.inr (some 60)), some (.inl (-100007))] [] σ _
    refine e_load q_118 rfl rfl rfl ?_
    refine e_dup q_118 rfl ?_
    refine e_getI q_118 rfl rfl rfl ?_
    refine e_push q_118 rfl ?_
    refine e_bin (r := (σ 60 6) + 1) q_118 rfl rfl ?_
    refine e_putI q_118 rfl rfl rfl ?_
    refine e_load q_118 rfl rfl rfl ?_
    refine e_ireturn q_118 rfl rfl ?_
    show Ev S (d + 2) 131 29 [some (.inr (some 60)), some (.inl x1), some (.inl x2), some (.inl x3), o4] [.inl (-100007)] (up σ 60 6 ((σ 60 6) + 1)) _
    exact e_ireturn q_131 rfl rfl h
theorem g_132_2 {S : Nat × (Nat → Int32)} {d : Nat} {σ : Mem} {Q : MQ1} {x1 : Int32} {x2 : Int32} {x3 : Int32} {o4 : Option MV}  (h : (∃ j1 : Nat, (1 + (9 * x1)) + x2 = nI j1 ∧ j1 < 86 ∧ (∃ j2 : Nat, (1 + (9 * x1)) + x2 = nI j2 ∧ j2 < 86 ∧ Q [.inl (σ 61 j1)] (up σ 61 j2 x3)))) : Ev S (d + 1) 132 2 [some (.inr (some 60)), some (.inl x1), some (.inl x2), some (.inl x3), o4] [] σ Q := by
  refine e_load q_132 rfl rfl rfl ?_
  refine e_load q_132 rfl rfl rfl ?_
  refine e_load q_132 rfl rfl rfl ?_
  refine e_virt q_132 rfl rfl (Nat.le_of_ble_eq_true rfl) rfl rfl (Nat.le_of_ble_eq_true rfl) rfl ?_
  show Ev S d 122 0 [some (.inr (some 60)), some (.inl x1), some (.inl x2)] [] σ _
  refine e_load q_122 rfl rfl rfl ?_
  refine e_getR q_122 rfl rfl rfl ?_
  refine e_push q_122 rfl ?_
  refine e_push q_122 rfl ?_
  refine e_load q_122 rfl rfl rfl ?_
  refine e_bin (r := 9 * x1) q_122 rfl rfl ?_
  refine e_bin (r := 1 + (9 * x1)) q_122 rfl rfl ?_
  refine e_load q_122 rfl rfl rfl ?_
  refine e_bin (r := (1 + (9 * x1)) + x2) q_122 rfl rfl ?_
  obtain ⟨j1, hjj1, hlj1, h⟩ := h
  refine e_iald q_122 rfl rfl (by decide) hjj1 hlj1 ?_
  refine e_ireturn q_122 rfl rfl ?_
  show Ev S (d + 1) 132 6 [some (.inr (some 60)), some (.inl x1), some (.inl x2), some (.inl x3), o4] [.inl (σ 61 j1)] σ _
  refine e_store (ls' := [some (.inr (some 60)), some (.inl x1), some (.inl x2), some (.inl x3), some (.inl (σ 61 j1))]) q_132 rfl (Nat.le_of_ble_eq_true rfl) rfl rfl ?_
  refine e_load q_132 rfl rfl rfl ?_
  refine e_load q_132 rfl rfl rfl ?_
  refine e_load q_132 rfl rfl rfl ?_
  refine e_load q_132 rfl rfl rfl ?_
  refine e_virt q_132 rfl rfl (Nat.le_of_ble_eq_true rfl) rfl rfl (Nat.le_of_ble_eq_true rfl) rfl ?_
  show Ev S d 123 0 [some (.inr (some 60)), some (.inl x1), some (.inl x2), some (.inl x3)] [] σ _
  refine e_load q_123 rfl rfl rfl ?_
  refine e_getR q_123 rfl rfl rfl ?_
  refine e_push q_123 rfl ?_
  refine e_push q_123 rfl ?_
  refine e_load q_123 rfl rfl rfl ?_
  refine e_bin (r := 9 * x1) q_123 rfl rfl ?_
  refine e_bin (r := 1 + (9 * x1)) q_123 rfl rfl ?_
  refine e_load q_123 rfl rfl rfl ?_
  refine e_bin (r := (1 + (9 * x1)) + x2) q_123 rfl rfl ?_
  refine e_load q_123 rfl rfl rfl ?_
  obtain ⟨j2, hjj2, hlj2, h⟩ := h
  refine e_iast q_123 rfl rfl (by decide) hjj2 hlj2 ?_
  refine e_return q_123 rfl rfl ?_
  show Ev S (d + 1) 132 12 [some (.inr (some 60)), some (.inl x1), some (.inl x2), some (.inl x3), some (.inl (σ 61 j1))] [] (up σ 61 j2 x3) _
  refine e_load q_132 rfl rfl rfl ?_
  exact e_ireturn q_132 rfl rfl h
theorem g_133_0 {S : Nat × (Nat → Int32)} {d : Nat} {σ : Mem} {Q : MQ1} {x1 : Int32} {x2 : Int32}  (h : ((x1 < 0 → Q [.inl (-100001)] (up σ 60 6 ((σ 60 6) + 1))) ∧ (¬ (x1 < 0) → (((σ 61 0) ≤ x1 → Q [.inl (-100001)] (up σ 60 6 ((σ 60 6) + 1))) ∧ (¬ ((σ 61 0) ≤ x1) → ((x2 < 0 → Q [.inl (-100001)] (up σ 60 6 ((σ 60 6) + 1))) ∧ (¬ (x2 < 0) → ((9 < x2 → Q [.inl (-100001)] (up σ 60 6 ((σ 60 6) + 1))) ∧ (¬ (9 < x2) → (∃ j2 : Nat, (1 + (9 * x1)) + 0 = nI j2 ∧ j2 < 86 ∧ (((¬ (σ 61 j2) = 2) → Ec S d 126 [.inr (some 60)] σ (fun rv σ' => Ev S (d + 1) 132 2 [some (.inr (some 60)), some (.inl x1), some (.inl 3), some (.inl x2), none] (rv ++ []) σ' (fun rv σ' => Ev S (d + 2) 133 26 [some (.inr (some 60)), some (.inl x1), some (.inl x2)] (rv ++ []) σ' Q))) ∧ (¬ (¬ (σ 61 j2) = 2) → Q [.inl (-100004)] (up σ 60 6 ((σ 60 6) + 1)))))))))))))) : Ev S (d + 2) 133 0 [some (.inr (some 60)), some (.inl x1), some (.inl x2)] [] σ Q := by
  refine e_load q_133 rfl rfl rfl ?_
  refine e_load q_133 rfl rfl rfl ?_
  refine e_virt q_133 rfl rfl (Nat.le_of_ble_eq_true rfl) rfl rfl (Nat.le_of_ble_eq_true rfl) rfl ?_
  show Ev S (d + 1) 120 0 [some (.inr (some 60)), some (.inl x1)] [] σ _
  refine e_load q_120 rfl rfl rfl ?_
  refine e_if (P := x1 < 0) q_120 rfl m_c2 (fun c => ?_) (fun c => ?_)
  · replace h := h.1 c
    refine e_push q_120 rfl ?_
    refine e_zreturn q_120 rfl rfl (by decide) ?_
    show Ev S (d + 2) 133 3 [some (.inr (some 60)), some (.inl x1), some (.inl x2)] [.inl 0] σ _
    refine e_if (P := (0 : Int32) = 0) q_133 rfl m_c0 (fun _ => ?_) (fun c => absurd (by decide) c)
    refine e_load q_133 rfl rfl rfl ?_
    refine e_push q_133 rfl ?_
    refine e_virt q_133 rfl rfl (Nat.le_of_ble_eq_true rfl) rfl rfl (Nat.le_of_ble_eq_true rfl) rfl ?_
    show Ev S (d + 1) 118 0 [some (.inr (some 60)), some (.inl (-100001))] [] σ _
    refine e_load q_118 rfl rfl rfl ?_
    refine e_dup q_118 rfl ?_
    refine e_getI q_118 rfl rfl rfl ?_
    refine e_push q_118 rfl ?_
    refine e_bin (r := (σ 60 6) + 1) q_118 rfl rfl ?_
    refine e_putI q_118 rfl rfl rfl ?_
    refine e_load q_118 rfl rfl rfl ?_
    refine e_ireturn q_118 rfl rfl ?_
    show Ev S (d + 2) 133 12 [some (.inr (some 60)), some (.inl x1), some (.inl x2)] [.inl (-100001)] (up σ 60 6 ((σ 60 6) + 1)) _
    exact e_ireturn q_133 rfl rfl h
  · replace h := h.2 c
    refine e_load q_120 rfl rfl rfl ?_
    refine e_load q_120 rfl rfl rfl ?_
    refine e_getR q_120 rfl rfl rfl ?_
    refine e_push q_120 rfl ?_
    refine e_iald (j := 0) q_120 rfl rfl (by decide) (by decide +kernel) (by decide) ?_
    refine e_icmp (P := (σ 61 0) ≤ x1) q_120 rfl m_c3 (fun c => ?_) (fun c => ?_)
    · replace h := h.1 c
      refine e_push q_120 rfl ?_
      refine e_zreturn q_120 rfl rfl (by decide) ?_
      show Ev S (d + 2) 133 3 [some (.inr (some 60)), some (.inl x1), some (.inl x2)] [.inl 0] σ _
      refine e_if (P := (0 : Int32) = 0) q_133 rfl m_c0 (fun _ => ?_) (fun c => absurd (by decide) c)
      refine e_load q_133 rfl rfl rfl ?_
      refine e_push q_133 rfl ?_
      refine e_virt q_133 rfl rfl (Nat.le_of_ble_eq_true rfl) rfl rfl (Nat.le_of_ble_eq_true rfl) rfl ?_
      show Ev S (d + 1) 118 0 [some (.inr (some 60)), some (.inl (-100001))] [] σ _
      refine e_load q_118 rfl rfl rfl ?_
      refine e_dup q_118 rfl ?_
      refine e_getI q_118 rfl rfl rfl ?_
      refine e_push q_118 rfl ?_
      refine e_bin (r := (σ 60 6) + 1) q_118 rfl rfl ?_
      refine e_putI q_118 rfl rfl rfl ?_
      refine e_load q_118 rfl rfl rfl ?_
      refine e_ireturn q_118 rfl rfl ?_
      show Ev S (d + 2) 133 12 [some (.inr (some 60)), some (.inl x1), some (.inl x2)] [.inl (-100001)] (up σ 60 6 ((σ 60 6) + 1)) _
      exact e_ireturn q_133 rfl rfl h
    · replace h := h.2 c
      refine e_push q_120 rfl ?_
      refine e_goto q_120 rfl ?_
      refine e_zreturn q_120 rfl rfl (by decide) ?_
      show Ev S (d + 2) 133 3 [some (.inr (some 60)), some (.inl x1), some (.inl x2)] [.inl 1] σ _
      refine e_if (P := (1 : Int32) = 0) q_133 rfl m_c0 (fun c => absurd c (by decide)) (fun _ => ?_)
      refine e_load q_133 rfl rfl rfl ?_
      refine e_push q_133 rfl ?_
      refine e_push q_133 rfl ?_
      refine e_stat q_133 rfl (Nat.le_of_ble_eq_true rfl) rfl rfl (Nat.le_of_ble_eq_true rfl) ?_
      show Ev S (d + 1) 119 0 [some (.inl x2), some (.inl 0), some (.inl 9)] [] σ _
      refine e_load q_119 rfl rfl rfl ?_
      refine e_load q_119 rfl rfl rfl ?_
      refine e_icmp (P := x2 < 0) q_119 rfl m_c2 (fun c => ?_) (fun c => ?_)
      · replace h := h.1 c
        refine e_push q_119 rfl ?_
        refine e_zreturn q_119 rfl rfl (by decide) ?_
        show Ev S (d + 2) 133 8 [some (.inr (some 60)), some (.inl x1), some (.inl x2)] [.inl 0] σ _
        refine e_if (P := ¬ (0 : Int32) = 0) q_133 rfl m_c1 (fun c => absurd c (by decide)) (fun _ => ?_)
        refine e_load q_133 rfl rfl rfl ?_
        refine e_push q_133 rfl ?_
        refine e_virt q_133 rfl rfl (Nat.le_of_ble_eq_true rfl) rfl rfl (Nat.le_of_ble_eq_true rfl) rfl ?_
        show Ev S (d + 1) 118 0 [some (.inr (some 60)), some (.inl (-100001))] [] σ _
        refine e_load q_118 rfl rfl rfl ?_
        refine e_dup q_118 rfl ?_
        refine e_getI q_118 rfl rfl rfl ?_
        refine e_push q_118 rfl ?_
        refine e_bin (r := (σ 60 6) + 1) q_118 rfl rfl ?_
        refine e_putI q_118 rfl rfl rfl ?_
        refine e_load q_118 rfl rfl rfl ?_
        refine e_ireturn q_118 rfl rfl ?_
        show Ev S (d + 2) 133 12 [some (.inr (some 60)), some (.inl x1), some (.inl x2)] [.inl (-100001)] (up σ 60 6 ((σ 60 6) + 1)) _
        exact e_ireturn q_133 rfl rfl h
      · replace h := h.2 c
        refine e_load q_119 rfl rfl rfl ?_
        refine e_load q_119 rfl rfl rfl ?_
        refine e_icmp (P := 9 < x2) q_119 rfl m_c4 (fun c => ?_) (fun c => ?_)
        · replace h := h.1 c
          refine e_push q_119 rfl ?_
          refine e_zreturn q_119 rfl rfl (by decide) ?_
          show Ev S (d + 2) 133 8 [some (.inr (some 60)), some (.inl x1), some (.inl x2)] [.inl 0] σ _
          refine e_if (P := ¬ (0 : Int32) = 0) q_133 rfl m_c1 (fun c => absurd c (by decide)) (fun _ => ?_)
          refine e_load q_133 rfl rfl rfl ?_
          refine e_push q_133 rfl ?_
          refine e_virt q_133 rfl rfl (Nat.le_of_ble_eq_true rfl) rfl rfl (Nat.le_of_ble_eq_true rfl) rfl ?_
          show Ev S (d + 1) 118 0 [some (.inr (some 60)), some (.inl (-100001))] [] σ _
          refine e_load q_118 rfl rfl rfl ?_
          refine e_dup q_118 rfl ?_
          refine e_getI q_118 rfl rfl rfl ?_
          refine e_push q_118 rfl ?_
          refine e_bin (r := (σ 60 6) + 1) q_118 rfl rfl ?_
          refine e_putI q_118 rfl rfl rfl ?_
          refine e_load q_118 rfl rfl rfl ?_
          refine e_ireturn q_118 rfl rfl ?_
          show Ev S (d + 2) 133 12 [some (.inr (some 60)), some (.inl x1), some (.inl x2)] [.inl (-100001)] (up σ 60 6 ((σ 60 6) + 1)) _
          exact e_ireturn q_133 rfl rfl h
        · replace h := h.2 c
          refine e_push q_119 rfl ?_
          refine e_goto q_119 rfl ?_
          refine e_zreturn q_119 rfl rfl (by decide) ?_
          show Ev S (d + 2) 133 8 [some (.inr (some 60)), some (.inl x1), some (.inl x2)] [.inl 1] σ _
          refine e_if (P := ¬ (1 : Int32) = 0) q_133 rfl m_c1 (fun _ => ?_) (fun c => absurd (by decide) c)
          refine e_load q_133 rfl rfl rfl ?_
          refine e_load q_133 rfl rfl rfl ?_
          refine e_virt q_133 rfl rfl (Nat.le_of_ble_eq_true rfl) rfl rfl (Nat.le_of_ble_eq_true rfl) rfl ?_
          show Ev S (d + 1) 124 0 [some (.inr (some 60)), some (.inl x1)] [] σ _
          refine e_load q_124 rfl rfl rfl ?_
          refine e_load q_124 rfl rfl rfl ?_
          refine e_push q_124 rfl ?_
          refine e_virt q_124 rfl rfl (Nat.le_of_ble_eq_true rfl) rfl rfl (Nat.le_of_ble_eq_true rfl) rfl ?_
          show Ev S d 122 0 [some (.inr (some 60)), some (.inl x1), some (.inl 0)] [] σ _
          refine e_load q_122 rfl rfl rfl ?_
          refine e_getR q_122 rfl rfl rfl ?_
          refine e_push q_122 rfl ?_
          refine e_push q_122 rfl ?_
          refine e_load q_122 rfl rfl rfl ?_
          refine e_bin (r := 9 * x1) q_122 rfl rfl ?_
          refine e_bin (r := 1 + (9 * x1)) q_122 rfl rfl ?_
          refine e_load q_122 rfl rfl rfl ?_
          refine e_bin (r := (1 + (9 * x1)) + 0) q_122 rfl rfl ?_
          obtain ⟨j2, hjj2, hlj2, h⟩ := h
          refine e_iald q_122 rfl rfl (by decide) hjj2 hlj2 ?_
          refine e_ireturn q_122 rfl rfl ?_
          show Ev S (d + 1) 124 4 [some (.inr (some 60)), some (.inl x1)] [.inl (σ 61 j2)] σ _
          refine e_push q_124 rfl ?_
          refine e_icmp (P := ¬ (σ 61 j2) = 2) q_124 rfl m_c1 (fun c => ?_) (fun c => ?_)
          · replace h := h.1 c
            refine e_push q_124 rfl ?_
            refine e_zreturn q_124 rfl rfl (by decide) ?_
            show Ev S (d + 2) 133 16 [some (.inr (some 60)), some (.inl x1), some (.inl x2)] [.inl 0] σ _
            refine e_if (P := (0 : Int32) = 0) q_133 rfl m_c0 (fun _ => ?_) (fun c => absurd (by decide) c)
            refine e_load q_133 rfl rfl rfl ?_
            refine e_load q_133 rfl rfl rfl ?_
            refine e_push q_133 rfl ?_
            refine e_load q_133 rfl rfl rfl ?_
            refine e_virt q_133 rfl rfl (Nat.le_of_ble_eq_true rfl) rfl rfl (Nat.le_of_ble_eq_true rfl) rfl ?_
            show Ev S (d + 1) 132 0 [some (.inr (some 60)), some (.inl x1), some (.inl 3), some (.inl x2), none] [] σ _
            refine e_load q_132 rfl rfl rfl ?_
            exact e_virt q_132 rfl rfl (Nat.le_of_ble_eq_true rfl) rfl rfl (Nat.le_of_ble_eq_true rfl) rfl h
          · replace h := h.2 c
            refine e_push q_124 rfl ?_
            refine e_goto q_124 rfl ?_
            refine e_zreturn q_124 rfl rfl (by decide) ?_
            show Ev S (d + 2) 133 16 [some (.inr (some 60)), some (.inl x1), some (.inl x2)] [.inl 1] σ _
            refine e_if (P := (1 : Int32) = 0) q_133 rfl m_c0 (fun c => absurd c (by decide)) (fun _ => ?_)
            refine e_load q_133 rfl rfl rfl ?_
            refine e_push q_133 rfl ?_
            refine e_virt q_133 rfl rfl (Nat.le_of_ble_eq_true rfl) rfl rfl (Nat.le_of_ble_eq_true rfl) rfl ?_
            show Ev S (d + 1) 118 0 [some (.inr (some 60)), some (.inl (-100004))] [] σ _
            refine e_load q_118 rfl rfl rfl ?_
            refine e_dup q_118 rfl ?_
            refine e_getI q_118 rfl rfl rfl ?_
            refine e_push q_118 rfl ?_
            refine e_bin (r := (σ 60 6) + 1) q_118 rfl rfl ?_
            refine e_putI q_118 rfl rfl rfl ?_
            refine e_load q_118 rfl rfl rfl ?_
            refine e_ireturn q_118 rfl rfl ?_
            show Ev S (d + 2) 133 20 [some (.inr (some 60)), some (.inl x1), some (.inl x2)] [.inl (-100004)] (up σ 60 6 ((σ 60 6) + 1)) _
            refine e_goto q_133 rfl ?_
            exact e_ireturn q_133 rfl rfl h
theorem g_133_26 {S : Nat × (Nat → Int32)} {d : Nat} {σ : Mem} {Q : MQ1} {o0 : Option MV} {o1 : Option MV} {o2 : Option MV} {y0 : Int32}  (h : Q [.inl y0] σ) : Ev S (d + 2) 133 26 [o0, o1, o2] [.inl y0] σ Q := by
  exact e_ireturn q_133 rfl rfl h
theorem g_134_0 {S : Nat × (Nat → Int32)} {d : Nat} {σ : Mem} {Q : MQ1} {x1 : Int32} {x2 : Int32}  (h : ((x1 < 0 → Q [.inl (-100001)] (up σ 60 6 ((σ 60 6) + 1))) ∧ (¬ (x1 < 0) → (((σ 61 0) ≤ x1 → Q [.inl (-100001)] (up σ 60 6 ((σ 60 6) + 1))) ∧ (¬ ((σ 61 0) ≤ x1) → ((x2 < 0 → Q [.inl (-100001)] (up σ 60 6 ((σ 60 6) + 1))) ∧ (¬ (x2 < 0) → ((65535 < x2 → Q [.inl (-100001)] (up σ 60 6 ((σ 60 6) + 1))) ∧ (¬ (65535 < x2) → Ec S d 126 [.inr (some 60)] σ (fun rv σ' => Ev S (d + 1) 132 2 [some (.inr (some 60)), some (.inl x1), some (.inl 4), some (.inl x2), none] (rv ++ []) σ' (fun rv σ' => Ev S (d + 2) 134 18 [some (.inr (some 60)), some (.inl x1), some (.inl x2)] (rv ++ []) σ' Q))))))))))) : Ev S (d + 2) 134 0 [some (.inr (some 60)), some (.inl x1), some (.inl x2)] [] σ Q := by
  refine e_load q_134 rfl rfl rfl ?_
  refine e_load q_134 rfl rfl rfl ?_
  refine e_virt q_134 rfl rfl (Nat.le_of_ble_eq_true rfl) rfl rfl (Nat.le_of_ble_eq_true rfl) rfl ?_
  show Ev S (d + 1) 120 0 [some (.inr (some 60)), some (.inl x1)] [] σ _
  refine e_load q_120 rfl rfl rfl ?_
  refine e_if (P := x1 < 0) q_120 rfl m_c2 (fun c => ?_) (fun c => ?_)
  · replace h := h.1 c
    refine e_push q_120 rfl ?_
    refine e_zreturn q_120 rfl rfl (by decide) ?_
    show Ev S (d + 2) 134 3 [some (.inr (some 60)), some (.inl x1), some (.inl x2)] [.inl 0] σ _
    refine e_if (P := (0 : Int32) = 0) q_134 rfl m_c0 (fun _ => ?_) (fun c => absurd (by decide) c)
    refine e_load q_134 rfl rfl rfl ?_
    refine e_push q_134 rfl ?_
    refine e_virt q_134 rfl rfl (Nat.le_of_ble_eq_true rfl) rfl rfl (Nat.le_of_ble_eq_true rfl) rfl ?_
    show Ev S (d + 1) 118 0 [some (.inr (some 60)), some (.inl (-100001))] [] σ _
    refine e_load q_118 rfl rfl rfl ?_
    refine e_dup q_118 rfl ?_
    refine e_getI q_118 rfl rfl rfl ?_
    refine e_push q_118 rfl ?_
    refine e_bin (r := (σ 60 6) + 1) q_118 rfl rfl ?_
    refine e_putI q_118 rfl rfl rfl ?_
    refine e_load q_118 rfl rfl rfl ?_
    refine e_ireturn q_118 rfl rfl ?_
    show Ev S (d + 2) 134 12 [some (.inr (some 60)), some (.inl x1), some (.inl x2)] [.inl (-100001)] (up σ 60 6 ((σ 60 6) + 1)) _
    exact e_ireturn q_134 rfl rfl h
  · replace h := h.2 c
    refine e_load q_120 rfl rfl rfl ?_
    refine e_load q_120 rfl rfl rfl ?_
    refine e_getR q_120 rfl rfl rfl ?_
    refine e_push q_120 rfl ?_
    refine e_iald (j := 0) q_120 rfl rfl (by decide) (by decide +kernel) (by decide) ?_
    refine e_icmp (P := (σ 61 0) ≤ x1) q_120 rfl m_c3 (fun c => ?_) (fun c => ?_)
    · replace h := h.1 c
      refine e_push q_120 rfl ?_
      refine e_zreturn q_120 rfl rfl (by decide) ?_
      show Ev S (d + 2) 134 3 [some (.inr (some 60)), some (.inl x1), some (.inl x2)] [.inl 0] σ _
      refine e_if (P := (0 : Int32) = 0) q_134 rfl m_c0 (fun _ => ?_) (fun c => absurd (by decide) c)
      refine e_load q_134 rfl rfl rfl ?_
      refine e_push q_134 rfl ?_
      refine e_virt q_134 rfl rfl (Nat.le_of_ble_eq_true rfl) rfl rfl (Nat.le_of_ble_eq_true rfl) rfl ?_
      show Ev S (d + 1) 118 0 [some (.inr (some 60)), some (.inl (-100001))] [] σ _
      refine e_load q_118 rfl rfl rfl ?_
      refine e_dup q_118 rfl ?_
      refine e_getI q_118 rfl rfl rfl ?_
      refine e_push q_118 rfl ?_
      refine e_bin (r := (σ 60 6) + 1) q_118 rfl rfl ?_
      refine e_putI q_118 rfl rfl rfl ?_
      refine e_load q_118 rfl rfl rfl ?_
      refine e_ireturn q_118 rfl rfl ?_
      show Ev S (d + 2) 134 12 [some (.inr (some 60)), some (.inl x1), some (.inl x2)] [.inl (-100001)] (up σ 60 6 ((σ 60 6) + 1)) _
      exact e_ireturn q_134 rfl rfl h
    · replace h := h.2 c
      refine e_push q_120 rfl ?_
      refine e_goto q_120 rfl ?_
      refine e_zreturn q_120 rfl rfl (by decide) ?_
      show Ev S (d + 2) 134 3 [some (.inr (some 60)), some (.inl x1), some (.inl x2)] [.inl 1] σ _
      refine e_if (P := (1 : Int32) = 0) q_134 rfl m_c0 (fun c => absurd c (by decide)) (fun _ => ?_)
      refine e_load q_134 rfl rfl rfl ?_
      refine e_push q_134 rfl ?_
      refine e_push q_134 rfl ?_
      refine e_stat q_134 rfl (Nat.le_of_ble_eq_true rfl) rfl rfl (Nat.le_of_ble_eq_true rfl) ?_
      show Ev S (d + 1) 119 0 [some (.inl x2), some (.inl 0), some (.inl 65535)] [] σ _
      refine e_load q_119 rfl rfl rfl ?_
      refine e_load q_119 rfl rfl rfl ?_
      refine e_icmp (P := x2 < 0) q_119 rfl m_c2 (fun c => ?_) (fun c => ?_)
      · replace h := h.1 c
        refine e_push q_119 rfl ?_
        refine e_zreturn q_119 rfl rfl (by decide) ?_
        show Ev S (d + 2) 134 8 [some (.inr (some 60)), some (.inl x1), some (.inl x2)] [.inl 0] σ _
        refine e_if (P := ¬ (0 : Int32) = 0) q_134 rfl m_c1 (fun c => absurd c (by decide)) (fun _ => ?_)
        refine e_load q_134 rfl rfl rfl ?_
        refine e_push q_134 rfl ?_
        refine e_virt q_134 rfl rfl (Nat.le_of_ble_eq_true rfl) rfl rfl (Nat.le_of_ble_eq_true rfl) rfl ?_
        show Ev S (d + 1) 118 0 [some (.inr (some 60)), some (.inl (-100001))] [] σ _
        refine e_load q_118 rfl rfl rfl ?_
        refine e_dup q_118 rfl ?_
        refine e_getI q_118 rfl rfl rfl ?_
        refine e_push q_118 rfl ?_
        refine e_bin (r := (σ 60 6) + 1) q_118 rfl rfl ?_
        refine e_putI q_118 rfl rfl rfl ?_
        refine e_load q_118 rfl rfl rfl ?_
        refine e_ireturn q_118 rfl rfl ?_
        show Ev S (d + 2) 134 12 [some (.inr (some 60)), some (.inl x1), some (.inl x2)] [.inl (-100001)] (up σ 60 6 ((σ 60 6) + 1)) _
        exact e_ireturn q_134 rfl rfl h
      · replace h := h.2 c
        refine e_load q_119 rfl rfl rfl ?_
        refine e_load q_119 rfl rfl rfl ?_
        refine e_icmp (P := 65535 < x2) q_119 rfl m_c4 (fun c => ?_) (fun c => ?_)
        · replace h := h.1 c
          refine e_push q_119 rfl ?_
          refine e_zreturn q_119 rfl rfl (by decide) ?_
          show Ev S (d + 2) 134 8 [some (.inr (some 60)), some (.inl x1), some (.inl x2)] [.inl 0] σ _
          refine e_if (P := ¬ (0 : Int32) = 0) q_134 rfl m_c1 (fun c => absurd c (by decide)) (fun _ => ?_)
          refine e_load q_134 rfl rfl rfl ?_
          refine e_push q_134 rfl ?_
          refine e_virt q_134 rfl rfl (Nat.le_of_ble_eq_true rfl) rfl rfl (Nat.le_of_ble_eq_true rfl) rfl ?_
          show Ev S (d + 1) 118 0 [some (.inr (some 60)), some (.inl (-100001))] [] σ _
          refine e_load q_118 rfl rfl rfl ?_
          refine e_dup q_118 rfl ?_
          refine e_getI q_118 rfl rfl rfl ?_
          refine e_push q_118 rfl ?_
          refine e_bin (r := (σ 60 6) + 1) q_118 rfl rfl ?_
          refine e_putI q_118 rfl rfl rfl ?_
          refine e_load q_118 rfl rfl rfl ?_
          refine e_ireturn q_118 rfl rfl ?_
          show Ev S (d + 2) 134 12 [some (.inr (some 60)), some (.inl x1), some (.inl x2)] [.inl (-100001)] (up σ 60 6 ((σ 60 6) + 1)) _
          exact e_ireturn q_134 rfl rfl h
        · replace h := h.2 c
          refine e_push q_119 rfl ?_
          refine e_goto q_119 rfl ?_
          refine e_zreturn q_119 rfl rfl (by decide) ?_
          show Ev S (d + 2) 134 8 [some (.inr (some 60)), some (.inl x1), some (.inl x2)] [.inl 1] σ _
          refine e_if (P := ¬ (1 : Int32) = 0) q_134 rfl m_c1 (fun _ => ?_) (fun c => absurd (by decide) c)
          refine e_load q_134 rfl rfl rfl ?_
          refine e_load q_134 rfl rfl rfl ?_
          refine e_push q_134 rfl ?_
          refine e_load q_134 rfl rfl rfl ?_
          refine e_virt q_134 rfl rfl (Nat.le_of_ble_eq_true rfl) rfl rfl (Nat.le_of_ble_eq_true rfl) rfl ?_
          show Ev S (d + 1) 132 0 [some (.inr (some 60)), some (.inl x1), some (.inl 4), some (.inl x2), none] [] σ _
          refine e_load q_132 rfl rfl rfl ?_
          exact e_virt q_132 rfl rfl (Nat.le_of_ble_eq_true rfl) rfl rfl (Nat.le_of_ble_eq_true rfl) rfl h
theorem g_134_18 {S : Nat × (Nat → Int32)} {d : Nat} {σ : Mem} {Q : MQ1} {o0 : Option MV} {o1 : Option MV} {o2 : Option MV} {y0 : Int32}  (h : Q [.inl y0] σ) : Ev S (d + 2) 134 18 [o0, o1, o2] [.inl y0] σ Q := by
  exact e_ireturn q_134 rfl rfl h
theorem g_135_0 {S : Nat × (Nat → Int32)} {d : Nat} {σ : Mem} {Q : MQ1} {x1 : Int32} {x2 : Int32}  (h : ((x1 < 0 → Q [.inl (-100001)] (up σ 60 6 ((σ 60 6) + 1))) ∧ (¬ (x1 < 0) → (((σ 61 0) ≤ x1 → Q [.inl (-100001)] (up σ 60 6 ((σ 60 6) + 1))) ∧ (¬ ((σ 61 0) ≤ x1) → ((x2 = (-1) → (∃ j2 : Nat, (1 + (9 * x1)) + 0 = nI j2 ∧ j2 < 86 ∧ (((σ 61 j2) = 3 → (((¬ x1 = x2) → Ec S d 126 [.inr (some 60)] σ (fun rv σ' => Ev S (d + 1) 132 2 [some (.inr (some 60)), some (.inl x1), some (.inl 5), some (.inl x2), none] (rv ++ []) σ' (fun rv σ' => Ev S (d + 2) 135 37 [some (.inr (some 60)), some (.inl x1), some (.inl x2)] (rv ++ []) σ' Q))) ∧ (¬ (¬ x1 = x2) → Q [.inl (-100003)] (up σ 60 6 ((σ 60 6) + 1))))) ∧ (¬ ((σ 61 j2) = 3) → Q [.inl (-100004)] (up σ 60 6 ((σ 60 6) + 1)))))) ∧ (¬ (x2 = (-1)) → ((x2 < 0 → Q [.inl (-100001)] (up σ 60 6 ((σ 60 6) + 1))) ∧ (¬ (x2 < 0) → (((σ 61 0) ≤ x2 → Q [.inl (-100001)] (up σ 60 6 ((σ 60 6) + 1))) ∧ (¬ ((σ 61 0) ≤ x2) → (∃ j4 : Nat, (1 + (9 * x1)) + 0 = nI j4 ∧ j4 < 86 ∧ (((σ 61 j4) = 3 → (((¬ x1 = x2) → Ec S d 126 [.inr (some 60)] σ (fun rv σ' => Ev S (d + 1) 132 2 [some (.inr (some 60)), some (.inl x1), some (.inl 5), some (.inl x2), none] (rv ++ []) σ' (fun rv σ' => Ev S (d + 2) 135 37 [some (.inr (some 60)), some (.inl x1), some (.inl x2)] (rv ++ []) σ' Q))) ∧ (¬ (¬ x1 = x2) → Q [.inl (-100003)] (up σ 60 6 ((σ 60 6) + 1))))) ∧ (¬ ((σ 61 j4) = 3) → Q [.inl (-100004)] (up σ 60 6 ((σ 60 6) + 1)))))))))))))))) : Ev S (d + 2) 135 0 [some (.inr (some 60)), some (.inl x1), some (.inl x2)] [] σ Q := by
  refine e_load q_135 rfl rfl rfl ?_
  refine e_load q_135 rfl rfl rfl ?_
  refine e_virt q_135 rfl rfl (Nat.le_of_ble_eq_true rfl) rfl rfl (Nat.le_of_ble_eq_true rfl) rfl ?_
  show Ev S (d + 1) 120 0 [some (.inr (some 60)), some (.inl x1)] [] σ _
  refine e_load q_120 rfl rfl rfl ?_
  refine e_if (P := x1 < 0) q_120 rfl m_c2 (fun c => ?_) (fun c => ?_)
  · replace h := h.1 c
    refine e_push q_120 rfl ?_
    refine e_zreturn q_120 rfl rfl (by decide) ?_
    show Ev S (d + 2) 135 3 [some (.inr (some 60)), some (.inl x1), some (.inl x2)] [.inl 0] σ _
    refine e_if (P := (0 : Int32) = 0) q_135 rfl m_c0 (fun _ => ?_) (fun c => absurd (by decide) c)
    refine e_load q_135 rfl rfl rfl ?_
    refine e_push q_135 rfl ?_
    refine e_virt q_135 rfl rfl (Nat.le_of_ble_eq_true rfl) rfl rfl (Nat.le_of_ble_eq_true rfl) rfl ?_
    show Ev S (d + 1) 118 0 [some (.inr (some 60)), some (.inl (-100001))] [] σ _
    refine e_load q_118 rfl rfl rfl ?_
    refine e_dup q_118 rfl ?_
    refine e_getI q_118 rfl rfl rfl ?_
    refine e_push q_118 rfl ?_
    refine e_bin (r := (σ 60 6) + 1) q_118 rfl rfl ?_
    refine e_putI q_118 rfl rfl rfl ?_
    refine e_load q_118 rfl rfl rfl ?_
    refine e_ireturn q_118 rfl rfl ?_
    show Ev S (d + 2) 135 14 [some (.inr (some 60)), some (.inl x1), some (.inl x2)] [.inl (-100001)] (up σ 60 6 ((σ 60 6) + 1)) _
    exact e_ireturn q_135 rfl rfl h
  · replace h := h.2 c
    refine e_load q_120 rfl rfl rfl ?_
    refine e_load q_120 rfl rfl rfl ?_
    refine e_getR q_120 rfl rfl rfl ?_
    refine e_push q_120 rfl ?_
    refine e_iald (j := 0) q_120 rfl rfl (by decide) (by decide +kernel) (by decide) ?_
    refine e_icmp (P := (σ 61 0) ≤ x1) q_120 rfl m_c3 (fun c => ?_) (fun c => ?_)
    · replace h := h.1 c
      refine e_push q_120 rfl ?_
      refine e_zreturn q_120 rfl rfl (by decide) ?_
      show Ev S (d + 2) 135 3 [some (.inr (some 60)), some (.inl x1), some (.inl x2)] [.inl 0] σ _
      refine e_if (P := (0 : Int32) = 0) q_135 rfl m_c0 (fun _ => ?_) (fun c => absurd (by decide) c)
      refine e_load q_135 rfl rfl rfl ?_
      refine e_push q_135 rfl ?_
      refine e_virt q_135 rfl rfl (Nat.le_of_ble_eq_true rfl) rfl rfl (Nat.le_of_ble_eq_true rfl) rfl ?_
      show Ev S (d + 1) 118 0 [some (.inr (some 60)), some (.inl (-100001))] [] σ _
      refine e_load q_118 rfl rfl rfl ?_
      refine e_dup q_118 rfl ?_
      refine e_getI q_118 rfl rfl rfl ?_
      refine e_push q_118 rfl ?_
      refine e_bin (r := (σ 60 6) + 1) q_118 rfl rfl ?_
      refine e_putI q_118 rfl rfl rfl ?_
      refine e_load q_118 rfl rfl rfl ?_
      refine e_ireturn q_118 rfl rfl ?_
      show Ev S (d + 2) 135 14 [some (.inr (some 60)), some (.inl x1), some (.inl x2)] [.inl (-100001)] (up σ 60 6 ((σ 60 6) + 1)) _
      exact e_ireturn q_135 rfl rfl h
    · replace h := h.2 c
      refine e_push q_120 rfl ?_
      refine e_goto q_120 rfl ?_
      refine e_zreturn q_120 rfl rfl (by decide) ?_
      show Ev S (d + 2) 135 3 [some (.inr (some 60)), some (.inl x1), some (.inl x2)] [.inl 1] σ _
      refine e_if (P := (1 : Int32) = 0) q_135 rfl m_c0 (fun c => absurd c (by decide)) (fun _ => ?_)
      refine e_load q_135 rfl rfl rfl ?_
      refine e_push q_135 rfl ?_
      refine e_icmp (P := x2 = (-1)) q_135 rfl m_c0 (fun c => ?_) (fun c => ?_)
      · replace h := h.1 c
        refine e_load q_135 rfl rfl rfl ?_
        refine e_load q_135 rfl rfl rfl ?_
        refine e_push q_135 rfl ?_
        refine e_virt q_135 rfl rfl (Nat.le_of_ble_eq_true rfl) rfl rfl (Nat.le_of_ble_eq_true rfl) rfl ?_
        show Ev S (d + 1) 122 0 [some (.inr (some 60)), some (.inl x1), some (.inl 0)] [] σ _
        refine e_load q_122 rfl rfl rfl ?_
        refine e_getR q_122 rfl rfl rfl ?_
        refine e_push q_122 rfl ?_
        refine e_push q_122 rfl ?_
        refine e_load q_122 rfl rfl rfl ?_
        refine e_bin (r := 9 * x1) q_122 rfl rfl ?_
        refine e_bin (r := 1 + (9 * x1)) q_122 rfl rfl ?_
        refine e_load q_122 rfl rfl rfl ?_
        refine e_bin (r := (1 + (9 * x1)) + 0) q_122 rfl rfl ?_
        obtain ⟨j2, hjj2, hlj2, h⟩ := h
        refine e_iald q_122 rfl rfl (by decide) hjj2 hlj2 ?_
        refine e_ireturn q_122 rfl rfl ?_
        show Ev S (d + 2) 135 19 [some (.inr (some 60)), some (.inl x1), some (.inl x2)] [.inl (σ 61 j2)] σ _
        refine e_push q_135 rfl ?_
        refine e_icmp (P := (σ 61 j2) = 3) q_135 rfl m_c0 (fun c => ?_) (fun c => ?_)
        · replace h := h.1 c
          refine e_load q_135 rfl rfl rfl ?_
          refine e_load q_135 rfl rfl rfl ?_
          refine e_icmp (P := ¬ x1 = x2) q_135 rfl m_c1 (fun c => ?_) (fun c => ?_)
          · replace h := h.1 c
            refine e_load q_135 rfl rfl rfl ?_
            refine e_load q_135 rfl rfl rfl ?_
            refine e_push q_135 rfl ?_
            refine e_load q_135 rfl rfl rfl ?_
            refine e_virt q_135 rfl rfl (Nat.le_of_ble_eq_true rfl) rfl rfl (Nat.le_of_ble_eq_true rfl) rfl ?_
            show Ev S (d + 1) 132 0 [some (.inr (some 60)), some (.inl x1), some (.inl 5), some (.inl x2), none] [] σ _
            refine e_load q_132 rfl rfl rfl ?_
            exact e_virt q_132 rfl rfl (Nat.le_of_ble_eq_true rfl) rfl rfl (Nat.le_of_ble_eq_true rfl) rfl h
          · replace h := h.2 c
            refine e_load q_135 rfl rfl rfl ?_
            refine e_push q_135 rfl ?_
            refine e_virt q_135 rfl rfl (Nat.le_of_ble_eq_true rfl) rfl rfl (Nat.le_of_ble_eq_true rfl) rfl ?_
            show Ev S (d + 1) 118 0 [some (.inr (some 60)), some (.inl (-100003))] [] σ _
            refine e_load q_118 rfl rfl rfl ?_
            refine e_dup q_118 rfl ?_
            refine e_getI q_118 rfl rfl rfl ?_
            refine e_push q_118 rfl ?_
            refine e_bin (r := (σ 60 6) + 1) q_118 rfl rfl ?_
            refine e_putI q_118 rfl rfl rfl ?_
            refine e_load q_118 rfl rfl rfl ?_
            refine e_ireturn q_118 rfl rfl ?_
            show Ev S (d + 2) 135 31 [some (.inr (some 60)), some (.inl x1), some (.inl x2)] [.inl (-100003)] (up σ 60 6 ((σ 60 6) + 1)) _
            refine e_goto q_135 rfl ?_
            exact e_ireturn q_135 rfl rfl h
        · replace h := h.2 c
          refine e_load q_135 rfl rfl rfl ?_
          refine e_push q_135 rfl ?_
          refine e_virt q_135 rfl rfl (Nat.le_of_ble_eq_true rfl) rfl rfl (Nat.le_of_ble_eq_true rfl) rfl ?_
          show Ev S (d + 1) 118 0 [some (.inr (some 60)), some (.inl (-100004))] [] σ _
          refine e_load q_118 rfl rfl rfl ?_
          refine e_dup q_118 rfl ?_
          refine e_getI q_118 rfl rfl rfl ?_
          refine e_push q_118 rfl ?_
          refine e_bin (r := (σ 60 6) + 1) q_118 rfl rfl ?_
          refine e_putI q_118 rfl rfl rfl ?_
          refine e_load q_118 rfl rfl rfl ?_
          refine e_ireturn q_118 rfl rfl ?_
          show Ev S (d + 2) 135 24 [some (.inr (some 60)), some (.inl x1), some (.inl x2)] [.inl (-100004)] (up σ 60 6 ((σ 60 6) + 1)) _
          exact e_ireturn q_135 rfl rfl h
      · replace h := h.2 c
        refine e_load q_135 rfl rfl rfl ?_
        refine e_load q_135 rfl rfl rfl ?_
        refine e_virt q_135 rfl rfl (Nat.le_of_ble_eq_true rfl) rfl rfl (Nat.le_of_ble_eq_true rfl) rfl ?_
        show Ev S (d + 1) 120 0 [some (.inr (some 60)), some (.inl x2)] [] σ _
        refine e_load q_120 rfl rfl rfl ?_
        refine e_if (P := x2 < 0) q_120 rfl m_c2 (fun c => ?_) (fun c => ?_)
        · replace h := h.1 c
          refine e_push q_120 rfl ?_
          refine e_zreturn q_120 rfl rfl (by decide) ?_
          show Ev S (d + 2) 135 10 [some (.inr (some 60)), some (.inl x1), some (.inl x2)] [.inl 0] σ _
          refine e_if (P := ¬ (0 : Int32) = 0) q_135 rfl m_c1 (fun c => absurd c (by decide)) (fun _ => ?_)
          refine e_load q_135 rfl rfl rfl ?_
          refine e_push q_135 rfl ?_
          refine e_virt q_135 rfl rfl (Nat.le_of_ble_eq_true rfl) rfl rfl (Nat.le_of_ble_eq_true rfl) rfl ?_
          show Ev S (d + 1) 118 0 [some (.inr (some 60)), some (.inl (-100001))] [] σ _
          refine e_load q_118 rfl rfl rfl ?_
          refine e_dup q_118 rfl ?_
          refine e_getI q_118 rfl rfl rfl ?_
          refine e_push q_118 rfl ?_
          refine e_bin (r := (σ 60 6) + 1) q_118 rfl rfl ?_
          refine e_putI q_118 rfl rfl rfl ?_
          refine e_load q_118 rfl rfl rfl ?_
          refine e_ireturn q_118 rfl rfl ?_
          show Ev S (d + 2) 135 14 [some (.inr (some 60)), some (.inl x1), some (.inl x2)] [.inl (-100001)] (up σ 60 6 ((σ 60 6) + 1)) _
          exact e_ireturn q_135 rfl rfl h
        · replace h := h.2 c
          refine e_load q_120 rfl rfl rfl ?_
          refine e_load q_120 rfl rfl rfl ?_
          refine e_getR q_120 rfl rfl rfl ?_
          refine e_push q_120 rfl ?_
          refine e_iald (j := 0) q_120 rfl rfl (by decide) (by decide +kernel) (by decide) ?_
          refine e_icmp (P := (σ 61 0) ≤ x2) q_120 rfl m_c3 (fun c => ?_) (fun c => ?_)
          · replace h := h.1 c
            refine e_push q_120 rfl ?_
            refine e_zreturn q_120 rfl rfl (by decide) ?_
            show Ev S (d + 2) 135 10 [some (.inr (some 60)), some (.inl x1), some (.inl x2)] [.inl 0] σ _
            refine e_if (P := ¬ (0 : Int32) = 0) q_135 rfl m_c1 (fun c => absurd c (by decide)) (fun _ => ?_)
            refine e_load q_135 rfl rfl rfl ?_
            refine e_push q_135 rfl ?_
            refine e_virt q_135 rfl rfl (Nat.le_of_ble_eq_true rfl) rfl rfl (Nat.le_of_ble_eq_true rfl) rfl ?_
            show Ev S (d + 1) 118 0 [some (.inr (some 60)), some (.inl (-100001))] [] σ _
            refine e_load q_118 rfl rfl rfl ?_
            refine e_dup q_118 rfl ?_
            refine e_getI q_118 rfl rfl rfl ?_
            refine e_push q_118 rfl ?_
            refine e_bin (r := (σ 60 6) + 1) q_118 rfl rfl ?_
            refine e_putI q_118 rfl rfl rfl ?_
            refine e_load q_118 rfl rfl rfl ?_
            refine e_ireturn q_118 rfl rfl ?_
            show Ev S (d + 2) 135 14 [some (.inr (some 60)), some (.inl x1), some (.inl x2)] [.inl (-100001)] (up σ 60 6 ((σ 60 6) + 1)) _
            exact e_ireturn q_135 rfl rfl h
          · replace h := h.2 c
            refine e_push q_120 rfl ?_
            refine e_goto q_120 rfl ?_
            refine e_zreturn q_120 rfl rfl (by decide) ?_
            show Ev S (d + 2) 135 10 [some (.inr (some 60)), some (.inl x1), some (.inl x2)] [.inl 1] σ _
            refine e_if (P := ¬ (1 : Int32) = 0) q_135 rfl m_c1 (fun _ => ?_) (fun c => absurd (by decide) c)
            refine e_load q_135 rfl rfl rfl ?_
            refine e_load q_135 rfl rfl rfl ?_
            refine e_push q_135 rfl ?_
            refine e_virt q_135 rfl rfl (Nat.le_of_ble_eq_true rfl) rfl rfl (Nat.le_of_ble_eq_true rfl) rfl ?_
            show Ev S (d + 1) 122 0 [some (.inr (some 60)), some (.inl x1), some (.inl 0)] [] σ _
            refine e_load q_122 rfl rfl rfl ?_
            refine e_getR q_122 rfl rfl rfl ?_
            refine e_push q_122 rfl ?_
            refine e_push q_122 rfl ?_
            refine e_load q_122 rfl rfl rfl ?_
            refine e_bin (r := 9 * x1) q_122 rfl rfl ?_
            refine e_bin (r := 1 + (9 * x1)) q_122 rfl rfl ?_
            refine e_load q_122 rfl rfl rfl ?_
            refine e_bin (r := (1 + (9 * x1)) + 0) q_122 rfl rfl ?_
            obtain ⟨j4, hjj4, hlj4, h⟩ := h
            refine e_iald q_122 rfl rfl (by decide) hjj4 hlj4 ?_
            refine e_ireturn q_122 rfl rfl ?_
            show Ev S (d + 2) 135 19 [some (.inr (some 60)), some (.inl x1), some (.inl x2)] [.inl (σ 61 j4)] σ _
            refine e_push q_135 rfl ?_
            refine e_icmp (P := (σ 61 j4) = 3) q_135 rfl m_c0 (fun c => ?_) (fun c => ?_)
            · replace h := h.1 c
              refine e_load q_135 rfl rfl rfl ?_
              refine e_load q_135 rfl rfl rfl ?_
              refine e_icmp (P := ¬ x1 = x2) q_135 rfl m_c1 (fun c => ?_) (fun c => ?_)
              · replace h := h.1 c
                refine e_load q_135 rfl rfl rfl ?_
                refine e_load q_135 rfl rfl rfl ?_
                refine e_push q_135 rfl ?_
                refine e_load q_135 rfl rfl rfl ?_
                refine e_virt q_135 rfl rfl (Nat.le_of_ble_eq_true rfl) rfl rfl (Nat.le_of_ble_eq_true rfl) rfl ?_
                show Ev S (d + 1) 132 0 [some (.inr (some 60)), some (.inl x1), some (.inl 5), some (.inl x2), none] [] σ _
                refine e_load q_132 rfl rfl rfl ?_
                exact e_virt q_132 rfl rfl (Nat.le_of_ble_eq_true rfl) rfl rfl (Nat.le_of_ble_eq_true rfl) rfl h
              · replace h := h.2 c
                refine e_load q_135 rfl rfl rfl ?_
                refine e_push q_135 rfl ?_
                refine e_virt q_135 rfl rfl (Nat.le_of_ble_eq_true rfl) rfl rfl (Nat.le_of_ble_eq_true rfl) rfl ?_
                show Ev S (d + 1) 118 0 [some (.inr (some 60)), some (.inl (-100003))] [] σ _
                refine e_load q_118 rfl rfl rfl ?_
                refine e_dup q_118 rfl ?_
                refine e_getI q_118 rfl rfl rfl ?_
                refine e_push q_118 rfl ?_
                refine e_bin (r := (σ 60 6) + 1) q_118 rfl rfl ?_
                refine e_putI q_118 rfl rfl rfl ?_
                refine e_load q_118 rfl rfl rfl ?_
                refine e_ireturn q_118 rfl rfl ?_
                show Ev S (d + 2) 135 31 [some (.inr (some 60)), some (.inl x1), some (.inl x2)] [.inl (-100003)] (up σ 60 6 ((σ 60 6) + 1)) _
                refine e_goto q_135 rfl ?_
                exact e_ireturn q_135 rfl rfl h
            · replace h := h.2 c
              refine e_load q_135 rfl rfl rfl ?_
              refine e_push q_135 rfl ?_
              refine e_virt q_135 rfl rfl (Nat.le_of_ble_eq_true rfl) rfl rfl (Nat.le_of_ble_eq_true rfl) rfl ?_
              show Ev S (d + 1) 118 0 [some (.inr (some 60)), some (.inl (-100004))] [] σ _
              refine e_load q_118 rfl rfl rfl ?_
              refine e_dup q_118 rfl ?_
              refine e_getI q_118 rfl rfl rfl ?_
              refine e_push q_118 rfl ?_
              refine e_bin (r := (σ 60 6) + 1) q_118 rfl rfl ?_
              refine e_putI q_118 rfl rfl rfl ?_
              refine e_load q_118 rfl rfl rfl ?_
              refine e_ireturn q_118 rfl rfl ?_
              show Ev S (d + 2) 135 24 [some (.inr (some 60)), some (.inl x1), some (.inl x2)] [.inl (-100004)] (up σ 60 6 ((σ 60 6) + 1)) _
              exact e_ireturn q_135 rfl rfl h
theorem g_135_37 {S : Nat × (Nat → Int32)} {d : Nat} {σ : Mem} {Q : MQ1} {o0 : Option MV} {o1 : Option MV} {o2 : Option MV} {y0 : Int32}  (h : Q [.inl y0] σ) : Ev S (d + 2) 135 37 [o0, o1, o2] [.inl y0] σ Q := by
  exact e_ireturn q_135 rfl rfl h
theorem g_136_0 {S : Nat × (Nat → Int32)} {d : Nat} {σ : Mem} {Q : MQ1} {x1 : Int32} {x2 : Int32}  (h : ((x1 < 0 → Q [.inl (-100001)] (up σ 60 6 ((σ 60 6) + 1))) ∧ (¬ (x1 < 0) → (((σ 61 0) ≤ x1 → Q [.inl (-100001)] (up σ 60 6 ((σ 60 6) + 1))) ∧ (¬ ((σ 61 0) ≤ x1) → ((x2 < 0 → Q [.inl (-100001)] (up σ 60 6 ((σ 60 6) + 1))) ∧ (¬ (x2 < 0) → ((7 < x2 → Q [.inl (-100001)] (up σ 60 6 ((σ 60 6) + 1))) ∧ (¬ (7 < x2) → ((5 ≤ x2 → (∃ j2 : Nat, (1 + (9 * x1)) + (x2 + 1) = nI j2 ∧ j2 < 86 ∧ Q [.inl (σ 61 j2)] σ)) ∧ (¬ (5 ≤ x2) → (∃ j3 : Nat, (1 + (9 * x1)) + x2 = nI j3 ∧ j3 < 86 ∧ Q [.inl (σ 61 j3)] σ)))))))))))) : Ev S (d + 1) 136 0 [some (.inr (some 60)), some (.inl x1), some (.inl x2)] [] σ Q := by
  refine e_load q_136 rfl rfl rfl ?_
  refine e_load q_136 rfl rfl rfl ?_
  refine e_virt q_136 rfl rfl (Nat.le_of_ble_eq_true rfl) rfl rfl (Nat.le_of_ble_eq_true rfl) rfl ?_
  show Ev S d 120 0 [some (.inr (some 60)), some (.inl x1)] [] σ _
  refine e_load q_120 rfl rfl rfl ?_
  refine e_if (P := x1 < 0) q_120 rfl m_c2 (fun c => ?_) (fun c => ?_)
  · replace h := h.1 c
    refine e_push q_120 rfl ?_
    refine e_zreturn q_120 rfl rfl (by decide) ?_
    show Ev S (d + 1) 136 3 [some (.inr (some 60)), some (.inl x1), some (.inl x2)] [.inl 0] σ _
    refine e_if (P := (0 : Int32) = 0) q_136 rfl m_c0 (fun _ => ?_) (fun c => absurd (by decide) c)
    refine e_load q_136 rfl rfl rfl ?_
    refine e_push q_136 rfl ?_
    refine e_virt q_136 rfl rfl (Nat.le_of_ble_eq_true rfl) rfl rfl (Nat.le_of_ble_eq_true rfl) rfl ?_
    show Ev S d 118 0 [some (.inr (some 60)), some (.inl (-100001))] [] σ _
    refine e_load q_118 rfl rfl rfl ?_
    refine e_dup q_118 rfl ?_
    refine e_getI q_118 rfl rfl rfl ?_
    refine e_push q_118 rfl ?_
    refine e_bin (r := (σ 60 6) + 1) q_118 rfl rfl ?_
    refine e_putI q_118 rfl rfl rfl ?_
    refine e_load q_118 rfl rfl rfl ?_
    refine e_ireturn q_118 rfl rfl ?_
    show Ev S (d + 1) 136 12 [some (.inr (some 60)), some (.inl x1), some (.inl x2)] [.inl (-100001)] (up σ 60 6 ((σ 60 6) + 1)) _
    exact e_ireturn q_136 rfl rfl h
  · replace h := h.2 c
    refine e_load q_120 rfl rfl rfl ?_
    refine e_load q_120 rfl rfl rfl ?_
    refine e_getR q_120 rfl rfl rfl ?_
    refine e_push q_120 rfl ?_
    refine e_iald (j := 0) q_120 rfl rfl (by decide) (by decide +kernel) (by decide) ?_
    refine e_icmp (P := (σ 61 0) ≤ x1) q_120 rfl m_c3 (fun c => ?_) (fun c => ?_)
    · replace h := h.1 c
      refine e_push q_120 rfl ?_
      refine e_zreturn q_120 rfl rfl (by decide) ?_
      show Ev S (d + 1) 136 3 [some (.inr (some 60)), some (.inl x1), some (.inl x2)] [.inl 0] σ _
      refine e_if (P := (0 : Int32) = 0) q_136 rfl m_c0 (fun _ => ?_) (fun c => absurd (by decide) c)
      refine e_load q_136 rfl rfl rfl ?_
      refine e_push q_136 rfl ?_
      refine e_virt q_136 rfl rfl (Nat.le_of_ble_eq_true rfl) rfl rfl (Nat.le_of_ble_eq_true rfl) rfl ?_
      show Ev S d 118 0 [some (.inr (some 60)), some (.inl (-100001))] [] σ _
      refine e_load q_118 rfl rfl rfl ?_
      refine e_dup q_118 rfl ?_
      refine e_getI q_118 rfl rfl rfl ?_
      refine e_push q_118 rfl ?_
      refine e_bin (r := (σ 60 6) + 1) q_118 rfl rfl ?_
      refine e_putI q_118 rfl rfl rfl ?_
      refine e_load q_118 rfl rfl rfl ?_
      refine e_ireturn q_118 rfl rfl ?_
      show Ev S (d + 1) 136 12 [some (.inr (some 60)), some (.inl x1), some (.inl x2)] [.inl (-100001)] (up σ 60 6 ((σ 60 6) + 1)) _
      exact e_ireturn q_136 rfl rfl h
    · replace h := h.2 c
      refine e_push q_120 rfl ?_
      refine e_goto q_120 rfl ?_
      refine e_zreturn q_120 rfl rfl (by decide) ?_
      show Ev S (d + 1) 136 3 [some (.inr (some 60)), some (.inl x1), some (.inl x2)] [.inl 1] σ _
      refine e_if (P := (1 : Int32) = 0) q_136 rfl m_c0 (fun c => absurd c (by decide)) (fun _ => ?_)
      refine e_load q_136 rfl rfl rfl ?_
      refine e_push q_136 rfl ?_
      refine e_push q_136 rfl ?_
      refine e_stat q_136 rfl (Nat.le_of_ble_eq_true rfl) rfl rfl (Nat.le_of_ble_eq_true rfl) ?_
      show Ev S d 119 0 [some (.inl x2), some (.inl 0), some (.inl 7)] [] σ _
      refine e_load q_119 rfl rfl rfl ?_
      refine e_load q_119 rfl rfl rfl ?_
      refine e_icmp (P := x2 < 0) q_119 rfl m_c2 (fun c => ?_) (fun c => ?_)
      · replace h := h.1 c
        refine e_push q_119 rfl ?_
        refine e_zreturn q_119 rfl rfl (by decide) ?_
        show Ev S (d + 1) 136 8 [some (.inr (some 60)), some (.inl x1), some (.inl x2)] [.inl 0] σ _
        refine e_if (P := ¬ (0 : Int32) = 0) q_136 rfl m_c1 (fun c => absurd c (by decide)) (fun _ => ?_)
        refine e_load q_136 rfl rfl rfl ?_
        refine e_push q_136 rfl ?_
        refine e_virt q_136 rfl rfl (Nat.le_of_ble_eq_true rfl) rfl rfl (Nat.le_of_ble_eq_true rfl) rfl ?_
        show Ev S d 118 0 [some (.inr (some 60)), some (.inl (-100001))] [] σ _
        refine e_load q_118 rfl rfl rfl ?_
        refine e_dup q_118 rfl ?_
        refine e_getI q_118 rfl rfl rfl ?_
        refine e_push q_118 rfl ?_
        refine e_bin (r := (σ 60 6) + 1) q_118 rfl rfl ?_
        refine e_putI q_118 rfl rfl rfl ?_
        refine e_load q_118 rfl rfl rfl ?_
        refine e_ireturn q_118 rfl rfl ?_
        show Ev S (d + 1) 136 12 [some (.inr (some 60)), some (.inl x1), some (.inl x2)] [.inl (-100001)] (up σ 60 6 ((σ 60 6) + 1)) _
        exact e_ireturn q_136 rfl rfl h
      · replace h := h.2 c
        refine e_load q_119 rfl rfl rfl ?_
        refine e_load q_119 rfl rfl rfl ?_
        refine e_icmp (P := 7 < x2) q_119 rfl m_c4 (fun c => ?_) (fun c => ?_)
        · replace h := h.1 c
          refine e_push q_119 rfl ?_
          refine e_zreturn q_119 rfl rfl (by decide) ?_
          show Ev S (d + 1) 136 8 [some (.inr (some 60)), some (.inl x1), some (.inl x2)] [.inl 0] σ _
          refine e_if (P := ¬ (0 : Int32) = 0) q_136 rfl m_c1 (fun c => absurd c (by decide)) (fun _ => ?_)
          refine e_load q_136 rfl rfl rfl ?_
          refine e_push q_136 rfl ?_
          refine e_virt q_136 rfl rfl (Nat.le_of_ble_eq_true rfl) rfl rfl (Nat.le_of_ble_eq_true rfl) rfl ?_
          show Ev S d 118 0 [some (.inr (some 60)), some (.inl (-100001))] [] σ _
          refine e_load q_118 rfl rfl rfl ?_
          refine e_dup q_118 rfl ?_
          refine e_getI q_118 rfl rfl rfl ?_
          refine e_push q_118 rfl ?_
          refine e_bin (r := (σ 60 6) + 1) q_118 rfl rfl ?_
          refine e_putI q_118 rfl rfl rfl ?_
          refine e_load q_118 rfl rfl rfl ?_
          refine e_ireturn q_118 rfl rfl ?_
          show Ev S (d + 1) 136 12 [some (.inr (some 60)), some (.inl x1), some (.inl x2)] [.inl (-100001)] (up σ 60 6 ((σ 60 6) + 1)) _
          exact e_ireturn q_136 rfl rfl h
        · replace h := h.2 c
          refine e_push q_119 rfl ?_
          refine e_goto q_119 rfl ?_
          refine e_zreturn q_119 rfl rfl (by decide) ?_
          show Ev S (d + 1) 136 8 [some (.inr (some 60)), some (.inl x1), some (.inl x2)] [.inl 1] σ _
          refine e_if (P := ¬ (1 : Int32) = 0) q_136 rfl m_c1 (fun _ => ?_) (fun c => absurd (by decide) c)
          refine e_load q_136 rfl rfl rfl ?_
          refine e_push q_136 rfl ?_
          refine e_icmp (P := 5 ≤ x2) q_136 rfl m_c3 (fun c => ?_) (fun c => ?_)
          · replace h := h.1 c
            refine e_load q_136 rfl rfl rfl ?_
            refine e_load q_136 rfl rfl rfl ?_
            refine e_load q_136 rfl rfl rfl ?_
            refine e_push q_136 rfl ?_
            refine e_bin (r := x2 + 1) q_136 rfl rfl ?_
            refine e_virt q_136 rfl rfl (Nat.le_of_ble_eq_true rfl) rfl rfl (Nat.le_of_ble_eq_true rfl) rfl ?_
            show Ev S d 122 0 [some (.inr (some 60)), some (.inl x1), some (.inl (x2 + 1))] [] σ _
            refine e_load q_122 rfl rfl rfl ?_
            refine e_getR q_122 rfl rfl rfl ?_
            refine e_push q_122 rfl ?_
            refine e_push q_122 rfl ?_
            refine e_load q_122 rfl rfl rfl ?_
            refine e_bin (r := 9 * x1) q_122 rfl rfl ?_
            refine e_bin (r := 1 + (9 * x1)) q_122 rfl rfl ?_
            refine e_load q_122 rfl rfl rfl ?_
            refine e_bin (r := (1 + (9 * x1)) + (x2 + 1)) q_122 rfl rfl ?_
            obtain ⟨j2, hjj2, hlj2, h⟩ := h
            refine e_iald q_122 rfl rfl (by decide) hjj2 hlj2 ?_
            refine e_ireturn q_122 rfl rfl ?_
            show Ev S (d + 1) 136 27 [some (.inr (some 60)), some (.inl x1), some (.inl x2)] [.inl (σ 61 j2)] σ _
            exact e_ireturn q_136 rfl rfl h
          · replace h := h.2 c
            refine e_load q_136 rfl rfl rfl ?_
            refine e_load q_136 rfl rfl rfl ?_
            refine e_load q_136 rfl rfl rfl ?_
            refine e_virt q_136 rfl rfl (Nat.le_of_ble_eq_true rfl) rfl rfl (Nat.le_of_ble_eq_true rfl) rfl ?_
            show Ev S d 122 0 [some (.inr (some 60)), some (.inl x1), some (.inl x2)] [] σ _
            refine e_load q_122 rfl rfl rfl ?_
            refine e_getR q_122 rfl rfl rfl ?_
            refine e_push q_122 rfl ?_
            refine e_push q_122 rfl ?_
            refine e_load q_122 rfl rfl rfl ?_
            refine e_bin (r := 9 * x1) q_122 rfl rfl ?_
            refine e_bin (r := 1 + (9 * x1)) q_122 rfl rfl ?_
            refine e_load q_122 rfl rfl rfl ?_
            refine e_bin (r := (1 + (9 * x1)) + x2) q_122 rfl rfl ?_
            obtain ⟨j3, hjj3, hlj3, h⟩ := h
            refine e_iald q_122 rfl rfl (by decide) hjj3 hlj3 ?_
            refine e_ireturn q_122 rfl rfl ?_
            show Ev S (d + 1) 136 20 [some (.inr (some 60)), some (.inl x1), some (.inl x2)] [.inl (σ 61 j3)] σ _
            refine e_goto q_136 rfl ?_
            exact e_ireturn q_136 rfl rfl h
theorem g_137_0 {S : Nat × (Nat → Int32)} {d : Nat} {σ : Mem} {Q : MQ1} {x1 : Int32} {x2 : Int32}  (h : ((x1 < 0 → Q [.inl (-100001)] (up σ 60 6 ((σ 60 6) + 1))) ∧ (¬ (x1 < 0) → ((5 < x1 → Q [.inl (-100001)] (up σ 60 6 ((σ 60 6) + 1))) ∧ (¬ (5 < x1) → ((x2 < 0 → Q [.inl (-100001)] (up σ 60 6 ((σ 60 6) + 1))) ∧ (¬ (x2 < 0) → ((40 < x2 → Q [.inl (-100001)] (up σ 60 6 ((σ 60 6) + 1))) ∧ (¬ (40 < x2) → Ec S (d + 1) 126 [.inr (some 60)] σ (fun rv σ' => Ev S (d + 2) 137 14 [some (.inr (some 60)), some (.inl x1), some (.inl x2), none] (rv ++ []) σ' Q)))))))))) : Ev S (d + 2) 137 0 [some (.inr (some 60)), some (.inl x1), some (.inl x2), none] [] σ Q := by
  refine e_load q_137 rfl rfl rfl ?_
  refine e_stat q_137 rfl (Nat.le_of_ble_eq_true rfl) rfl rfl (Nat.le_of_ble_eq_true rfl) ?_
  show Ev S (d + 1) 121 0 [some (.inl x1)] [] σ _
  refine e_load q_121 rfl rfl rfl ?_
  refine e_push q_121 rfl ?_
  refine e_push q_121 rfl ?_
  refine e_stat q_121 rfl (Nat.le_of_ble_eq_true rfl) rfl rfl (Nat.le_of_ble_eq_true rfl) ?_
  show Ev S d 119 0 [some (.inl x1), some (.inl 0), some (.inl 5)] [] σ _
  refine e_load q_119 rfl rfl rfl ?_
  refine e_load q_119 rfl rfl rfl ?_
  refine e_icmp (P := x1 < 0) q_119 rfl m_c2 (fun c => ?_) (fun c => ?_)
  · replace h := h.1 c
    refine e_push q_119 rfl ?_
    refine e_zreturn q_119 rfl rfl (by decide) ?_
    show Ev S (d + 1) 121 4 [some (.inl x1)] [.inl 0] σ _
    refine e_zreturn q_121 rfl rfl (by decide) ?_
    show Ev S (d + 2) 137 2 [some (.inr (some 60)), some (.inl x1), some (.inl x2), none] [.inl 0] σ _
    refine e_if (P := (0 : Int32) = 0) q_137 rfl m_c0 (fun _ => ?_) (fun c => absurd (by decide) c)
    refine e_load q_137 rfl rfl rfl ?_
    refine e_push q_137 rfl ?_
    refine e_virt q_137 rfl rfl (Nat.le_of_ble_eq_true rfl) rfl rfl (Nat.le_of_ble_eq_true rfl) rfl ?_
    show Ev S (d + 1) 118 0 [some (.inr (some 60)), some (.inl (-100001))] [] σ _
    refine e_load q_118 rfl rfl rfl ?_
    refine e_dup q_118 rfl ?_
    refine e_getI q_118 rfl rfl rfl ?_
    refine e_push q_118 rfl ?_
    refine e_bin (r := (σ 60 6) + 1) q_118 rfl rfl ?_
    refine e_putI q_118 rfl rfl rfl ?_
    refine e_load q_118 rfl rfl rfl ?_
    refine e_ireturn q_118 rfl rfl ?_
    show Ev S (d + 2) 137 11 [some (.inr (some 60)), some (.inl x1), some (.inl x2), none] [.inl (-100001)] (up σ 60 6 ((σ 60 6) + 1)) _
    exact e_ireturn q_137 rfl rfl h
  · replace h := h.2 c
    refine e_load q_119 rfl rfl rfl ?_
    refine e_load q_119 rfl rfl rfl ?_
    refine e_icmp (P := 5 < x1) q_119 rfl m_c4 (fun c => ?_) (fun c => ?_)
    · replace h := h.1 c
      refine e_push q_119 rfl ?_
      refine e_zreturn q_119 rfl rfl (by decide) ?_
      show Ev S (d + 1) 121 4 [some (.inl x1)] [.inl 0] σ _
      refine e_zreturn q_121 rfl rfl (by decide) ?_
      show Ev S (d + 2) 137 2 [some (.inr (some 60)), some (.inl x1), some (.inl x2), none] [.inl 0] σ _
      refine e_if (P := (0 : Int32) = 0) q_137 rfl m_c0 (fun _ => ?_) (fun c => absurd (by decide) c)
      refine e_load q_137 rfl rfl rfl ?_
      refine e_push q_137 rfl ?_
      refine e_virt q_137 rfl rfl (Nat.le_of_ble_eq_true rfl) rfl rfl (Nat.le_of_ble_eq_true rfl) rfl ?_
      show Ev S (d + 1) 118 0 [some (.inr (some 60)), some (.inl (-100001))] [] σ _
      refine e_load q_118 rfl rfl rfl ?_
      refine e_dup q_118 rfl ?_
      refine e_getI q_118 rfl rfl rfl ?_
      refine e_push q_118 rfl ?_
      refine e_bin (r := (σ 60 6) + 1) q_118 rfl rfl ?_
      refine e_putI q_118 rfl rfl rfl ?_
      refine e_load q_118 rfl rfl rfl ?_
      refine e_ireturn q_118 rfl rfl ?_
      show Ev S (d + 2) 137 11 [some (.inr (some 60)), some (.inl x1), some (.inl x2), none] [.inl (-100001)] (up σ 60 6 ((σ 60 6) + 1)) _
      exact e_ireturn q_137 rfl rfl h
    · replace h := h.2 c
      refine e_push q_119 rfl ?_
      refine e_goto q_119 rfl ?_
      refine e_zreturn q_119 rfl rfl (by decide) ?_
      show Ev S (d + 1) 121 4 [some (.inl x1)] [.inl 1] σ _
      refine e_zreturn q_121 rfl rfl (by decide) ?_
      show Ev S (d + 2) 137 2 [some (.inr (some 60)), some (.inl x1), some (.inl x2), none] [.inl 1] σ _
      refine e_if (P := (1 : Int32) = 0) q_137 rfl m_c0 (fun c => absurd c (by decide)) (fun _ => ?_)
      refine e_load q_137 rfl rfl rfl ?_
      refine e_push q_137 rfl ?_
      refine e_push q_137 rfl ?_
      refine e_stat q_137 rfl (Nat.le_of_ble_eq_true rfl) rfl rfl (Nat.le_of_ble_eq_true rfl) ?_
      show Ev S (d + 1) 119 0 [some (.inl x2), some (.inl 0), some (.inl 40)] [] σ _
      refine e_load q_119 rfl rfl rfl ?_
      refine e_load q_119 rfl rfl rfl ?_
      refine e_icmp (P := x2 < 0) q_119 rfl m_c2 (fun c => ?_) (fun c => ?_)
      · replace h := h.1 c
        refine e_push q_119 rfl ?_
        refine e_zreturn q_119 rfl rfl (by decide) ?_
        show Ev S (d + 2) 137 7 [some (.inr (some 60)), some (.inl x1), some (.inl x2), none] [.inl 0] σ _
        refine e_if (P := ¬ (0 : Int32) = 0) q_137 rfl m_c1 (fun c => absurd c (by decide)) (fun _ => ?_)
        refine e_load q_137 rfl rfl rfl ?_
        refine e_push q_137 rfl ?_
        refine e_virt q_137 rfl rfl (Nat.le_of_ble_eq_true rfl) rfl rfl (Nat.le_of_ble_eq_true rfl) rfl ?_
        show Ev S (d + 1) 118 0 [some (.inr (some 60)), some (.inl (-100001))] [] σ _
        refine e_load q_118 rfl rfl rfl ?_
        refine e_dup q_118 rfl ?_
        refine e_getI q_118 rfl rfl rfl ?_
        refine e_push q_118 rfl ?_
        refine e_bin (r := (σ 60 6) + 1) q_118 rfl rfl ?_
        refine e_putI q_118 rfl rfl rfl ?_
        refine e_load q_118 rfl rfl rfl ?_
        refine e_ireturn q_118 rfl rfl ?_
        show Ev S (d + 2) 137 11 [some (.inr (some 60)), some (.inl x1), some (.inl x2), none] [.inl (-100001)] (up σ 60 6 ((σ 60 6) + 1)) _
        exact e_ireturn q_137 rfl rfl h
      · replace h := h.2 c
        refine e_load q_119 rfl rfl rfl ?_
        refine e_load q_119 rfl rfl rfl ?_
        refine e_icmp (P := 40 < x2) q_119 rfl m_c4 (fun c => ?_) (fun c => ?_)
        · replace h := h.1 c
          refine e_push q_119 rfl ?_
          refine e_zreturn q_119 rfl rfl (by decide) ?_
          show Ev S (d + 2) 137 7 [some (.inr (some 60)), some (.inl x1), some (.inl x2), none] [.inl 0] σ _
          refine e_if (P := ¬ (0 : Int32) = 0) q_137 rfl m_c1 (fun c => absurd c (by decide)) (fun _ => ?_)
          refine e_load q_137 rfl rfl rfl ?_
          refine e_push q_137 rfl ?_
          refine e_virt q_137 rfl rfl (Nat.le_of_ble_eq_true rfl) rfl rfl (Nat.le_of_ble_eq_true rfl) rfl ?_
          show Ev S (d + 1) 118 0 [some (.inr (some 60)), some (.inl (-100001))] [] σ _
          refine e_load q_118 rfl rfl rfl ?_
          refine e_dup q_118 rfl ?_
          refine e_getI q_118 rfl rfl rfl ?_
          refine e_push q_118 rfl ?_
          refine e_bin (r := (σ 60 6) + 1) q_118 rfl rfl ?_
          refine e_putI q_118 rfl rfl rfl ?_
          refine e_load q_118 rfl rfl rfl ?_
          refine e_ireturn q_118 rfl rfl ?_
          show Ev S (d + 2) 137 11 [some (.inr (some 60)), some (.inl x1), some (.inl x2), none] [.inl (-100001)] (up σ 60 6 ((σ 60 6) + 1)) _
          exact e_ireturn q_137 rfl rfl h
        · replace h := h.2 c
          refine e_push q_119 rfl ?_
          refine e_goto q_119 rfl ?_
          refine e_zreturn q_119 rfl rfl (by decide) ?_
          show Ev S (d + 2) 137 7 [some (.inr (some 60)), some (.inl x1), some (.inl x2), none] [.inl 1] σ _
          refine e_if (P := ¬ (1 : Int32) = 0) q_137 rfl m_c1 (fun _ => ?_) (fun c => absurd (by decide) c)
          refine e_load q_137 rfl rfl rfl ?_
          exact e_virt q_137 rfl rfl (Nat.le_of_ble_eq_true rfl) rfl rfl (Nat.le_of_ble_eq_true rfl) rfl h
theorem g_137_14 {S : Nat × (Nat → Int32)} {d : Nat} {σ : Mem} {Q : MQ1} {x1 : Int32} {x2 : Int32} {o3 : Option MV}  (h : (∃ j1 : Nat, 73 + x1 = nI j1 ∧ j1 < 86 ∧ (∃ j2 : Nat, 73 + x1 = nI j2 ∧ j2 < 86 ∧ Q [.inl (σ 61 j1)] (up σ 61 j2 x2)))) : Ev S (d + 2) 137 14 [some (.inr (some 60)), some (.inl x1), some (.inl x2), o3] [] σ Q := by
  refine e_load q_137 rfl rfl rfl ?_
  refine e_getR q_137 rfl rfl rfl ?_
  refine e_push q_137 rfl ?_
  refine e_load q_137 rfl rfl rfl ?_
  refine e_bin (r := 73 + x1) q_137 rfl rfl ?_
  obtain ⟨j1, hjj1, hlj1, h⟩ := h
  refine e_iald q_137 rfl rfl (by decide) hjj1 hlj1 ?_
  refine e_store (ls' := [some (.inr (some 60)), some (.inl x1), some (.inl x2), some (.inl (σ 61 j1))]) q_137 rfl (Nat.le_of_ble_eq_true rfl) rfl rfl ?_
  refine e_load q_137 rfl rfl rfl ?_
  refine e_getR q_137 rfl rfl rfl ?_
  refine e_push q_137 rfl ?_
  refine e_load q_137 rfl rfl rfl ?_
  refine e_bin (r := 73 + x1) q_137 rfl rfl ?_
  refine e_load q_137 rfl rfl rfl ?_
  obtain ⟨j2, hjj2, hlj2, h⟩ := h
  refine e_iast q_137 rfl rfl (by decide) hjj2 hlj2 ?_
  refine e_load q_137 rfl rfl rfl ?_
  exact e_ireturn q_137 rfl rfl h
theorem g_138_0 {S : Nat × (Nat → Int32)} {d : Nat} {σ : Mem} {Q : MQ1} {x1 : Int32} {x2 : Int32}  (h : ((x1 < 0 → Q [.inl (-100001)] (up σ 60 6 ((σ 60 6) + 1))) ∧ (¬ (x1 < 0) → ((5 < x1 → Q [.inl (-100001)] (up σ 60 6 ((σ 60 6) + 1))) ∧ (¬ (5 < x1) → Ec S (d + 1) 126 [.inr (some 60)] σ (fun rv σ' => Ev S (d + 2) 138 9 [some (.inr (some 60)), some (.inl x1), some (.inl x2), none] (rv ++ []) σ' Q)))))) : Ev S (d + 2) 138 0 [some (.inr (some 60)), some (.inl x1), some (.inl x2), none] [] σ Q := by
  refine e_load q_138 rfl rfl rfl ?_
  refine e_stat q_138 rfl (Nat.le_of_ble_eq_true rfl) rfl rfl (Nat.le_of_ble_eq_true rfl) ?_
  show Ev S (d + 1) 121 0 [some (.inl x1)] [] σ _
  refine e_load q_121 rfl rfl rfl ?_
  refine e_push q_121 rfl ?_
  refine e_push q_121 rfl ?_
  refine e_stat q_121 rfl (Nat.le_of_ble_eq_true rfl) rfl rfl (Nat.le_of_ble_eq_true rfl) ?_
  show Ev S d 119 0 [some (.inl x1), some (.inl 0), some (.inl 5)] [] σ _
  refine e_load q_119 rfl rfl rfl ?_
  refine e_load q_119 rfl rfl rfl ?_
  refine e_icmp (P := x1 < 0) q_119 rfl m_c2 (fun c => ?_) (fun c => ?_)
  · replace h := h.1 c
    refine e_push q_119 rfl ?_
    refine e_zreturn q_119 rfl rfl (by decide) ?_
    show Ev S (d + 1) 121 4 [some (.inl x1)] [.inl 0] σ _
    refine e_zreturn q_121 rfl rfl (by decide) ?_
    show Ev S (d + 2) 138 2 [some (.inr (some 60)), some (.inl x1), some (.inl x2), none] [.inl 0] σ _
    refine e_if (P := ¬ (0 : Int32) = 0) q_138 rfl m_c1 (fun c => absurd c (by decide)) (fun _ => ?_)
    refine e_load q_138 rfl rfl rfl ?_
    refine e_push q_138 rfl ?_
    refine e_virt q_138 rfl rfl (Nat.le_of_ble_eq_true rfl) rfl rfl (Nat.le_of_ble_eq_true rfl) rfl ?_
    show Ev S (d + 1) 118 0 [some (.inr (some 60)), some (.inl (-100001))] [] σ _
    refine e_load q_118 rfl rfl rfl ?_
    refine e_dup q_118 rfl ?_
    refine e_getI q_118 rfl rfl rfl ?_
    refine e_push q_118 rfl ?_
    refine e_bin (r := (σ 60 6) + 1) q_118 rfl rfl ?_
    refine e_putI q_118 rfl rfl rfl ?_
    refine e_load q_118 rfl rfl rfl ?_
    refine e_ireturn q_118 rfl rfl ?_
    show Ev S (d + 2) 138 6 [some (.inr (some 60)), some (.inl x1), some (.inl x2), none] [.inl (-100001)] (up σ 60 6 ((σ 60 6) + 1)) _
    exact e_ireturn q_138 rfl rfl h
  · replace h := h.2 c
    refine e_load q_119 rfl rfl rfl ?_
    refine e_load q_119 rfl rfl rfl ?_
    refine e_icmp (P := 5 < x1) q_119 rfl m_c4 (fun c => ?_) (fun c => ?_)
    · replace h := h.1 c
      refine e_push q_119 rfl ?_
      refine e_zreturn q_119 rfl rfl (by decide) ?_
      show Ev S (d + 1) 121 4 [some (.inl x1)] [.inl 0] σ _
      refine e_zreturn q_121 rfl rfl (by decide) ?_
      show Ev S (d + 2) 138 2 [some (.inr (some 60)), some (.inl x1), some (.inl x2), none] [.inl 0] σ _
      refine e_if (P := ¬ (0 : Int32) = 0) q_138 rfl m_c1 (fun c => absurd c (by decide)) (fun _ => ?_)
      refine e_load q_138 rfl rfl rfl ?_
      refine e_push q_138 rfl ?_
      refine e_virt q_138 rfl rfl (Nat.le_of_ble_eq_true rfl) rfl rfl (Nat.le_of_ble_eq_true rfl) rfl ?_
      show Ev S (d + 1) 118 0 [some (.inr (some 60)), some (.inl (-100001))] [] σ _
      refine e_load q_118 rfl rfl rfl ?_
      refine e_dup q_118 rfl ?_
      refine e_getI q_118 rfl rfl rfl ?_
      refine e_push q_118 rfl ?_
      refine e_bin (r := (σ 60 6) + 1) q_118 rfl rfl ?_
      refine e_putI q_118 rfl rfl rfl ?_
      refine e_load q_118 rfl rfl rfl ?_
      refine e_ireturn q_118 rfl rfl ?_
      show Ev S (d + 2) 138 6 [some (.inr (some 60)), some (.inl x1), some (.inl x2), none] [.inl (-100001)] (up σ 60 6 ((σ 60 6) + 1)) _
      exact e_ireturn q_138 rfl rfl h
    · replace h := h.2 c
      refine e_push q_119 rfl ?_
      refine e_goto q_119 rfl ?_
      refine e_zreturn q_119 rfl rfl (by decide) ?_
      show Ev S (d + 1) 121 4 [some (.inl x1)] [.inl 1] σ _
      refine e_zreturn q_121 rfl rfl (by decide) ?_
      show Ev S (d + 2) 138 2 [some (.inr (some 60)), some (.inl x1), some (.inl x2), none] [.inl 1] σ _
      refine e_if (P := ¬ (1 : Int32) = 0) q_138 rfl m_c1 (fun _ => ?_) (fun c => absurd (by decide) c)
      refine e_load q_138 rfl rfl rfl ?_
      exact e_virt q_138 rfl rfl (Nat.le_of_ble_eq_true rfl) rfl rfl (Nat.le_of_ble_eq_true rfl) rfl h
theorem g_138_9 {S : Nat × (Nat → Int32)} {d : Nat} {σ : Mem} {Q : MQ1} {x1 : Int32} {x2 : Int32} {o3 : Option MV}  (h : (∃ j1 : Nat, 79 + x1 = nI j1 ∧ j1 < 86 ∧ (((¬ (σ 61 j1) = 1) → ((x2 = 0 → (∃ j2 : Nat, 79 + x1 = nI j2 ∧ j2 < 86 ∧ (((¬ 0 = x2) → Q [.inl 1] (up σ 61 j2 0)) ∧ (¬ (¬ 0 = x2) → Q [.inl 0] (up σ 61 j2 0))))) ∧ (¬ (x2 = 0) → (∃ j3 : Nat, 79 + x1 = nI j3 ∧ j3 < 86 ∧ (((¬ 0 = x2) → Q [.inl 1] (up σ 61 j3 1)) ∧ (¬ (¬ 0 = x2) → Q [.inl 0] (up σ 61 j3 1))))))) ∧ (¬ (¬ (σ 61 j1) = 1) → ((x2 = 0 → (∃ j4 : Nat, 79 + x1 = nI j4 ∧ j4 < 86 ∧ (((¬ 1 = x2) → Q [.inl 1] (up σ 61 j4 0)) ∧ (¬ (¬ 1 = x2) → Q [.inl 0] (up σ 61 j4 0))))) ∧ (¬ (x2 = 0) → (∃ j5 : Nat, 79 + x1 = nI j5 ∧ j5 < 86 ∧ (((¬ 1 = x2) → Q [.inl 1] (up σ 61 j5 1)) ∧ (¬ (¬ 1 = x2) → Q [.inl 0] (up σ 61 j5 1)))))))))) : Ev S (d + 2) 138 9 [some (.inr (some 60)), some (.inl x1), some (.inl x2), o3] [] σ Q := by
  refine e_load q_138 rfl rfl rfl ?_
  refine e_load q_138 rfl rfl rfl ?_
  refine e_virt q_138 rfl rfl (Nat.le_of_ble_eq_true rfl) rfl rfl (Nat.le_of_ble_eq_true rfl) rfl ?_
  show Ev S (d + 1) 125 0 [some (.inr (some 60)), some (.inl x1)] [] σ _
  refine e_load q_125 rfl rfl rfl ?_
  refine e_getR q_125 rfl rfl rfl ?_
  refine e_push q_125 rfl ?_
  refine e_load q_125 rfl rfl rfl ?_
  refine e_bin (r := 79 + x1) q_125 rfl rfl ?_
  obtain ⟨j1, hjj1, hlj1, h⟩ := h
  refine e_iald q_125 rfl rfl (by decide) hjj1 hlj1 ?_
  refine e_push q_125 rfl ?_
  refine e_icmp (P := ¬ (σ 61 j1) = 1) q_125 rfl m_c1 (fun c => ?_) (fun c => ?_)
  · replace h := h.1 c
    refine e_push q_125 rfl ?_
    refine e_zreturn q_125 rfl rfl (by decide) ?_
    show Ev S (d + 2) 138 12 [some (.inr (some 60)), some (.inl x1), some (.inl x2), o3] [.inl 0] σ _
    refine e_store (ls' := [some (.inr (some 60)), some (.inl x1), some (.inl x2), some (.inl 0)]) q_138 rfl (Nat.le_of_ble_eq_true rfl) rfl rfl ?_
    refine e_load q_138 rfl rfl rfl ?_
    refine e_getR q_138 rfl rfl rfl ?_
    refine e_push q_138 rfl ?_
    refine e_load q_138 rfl rfl rfl ?_
    refine e_bin (r := 79 + x1) q_138 rfl rfl ?_
    refine e_load q_138 rfl rfl rfl ?_
    refine e_if (P := x2 = 0) q_138 rfl m_c0 (fun c => ?_) (fun c => ?_)
    · replace h := h.1 c
      refine e_push q_138 rfl ?_
      obtain ⟨j2, hjj2, hlj2, h⟩ := h
      refine e_iast q_138 rfl rfl (by decide) hjj2 hlj2 ?_
      refine e_load q_138 rfl rfl rfl ?_
      refine e_load q_138 rfl rfl rfl ?_
      refine e_icmp (P := ¬ 0 = x2) q_138 rfl m_c1 (fun c => ?_) (fun c => ?_)
      · replace h := h.1 c
        refine e_push q_138 rfl ?_
        exact e_ireturn q_138 rfl rfl h
      · replace h := h.2 c
        refine e_push q_138 rfl ?_
        refine e_goto q_138 rfl ?_
        exact e_ireturn q_138 rfl rfl h
    · replace h := h.2 c
      refine e_push q_138 rfl ?_
      refine e_goto q_138 rfl ?_
      obtain ⟨j3, hjj3, hlj3, h⟩ := h
      refine e_iast q_138 rfl rfl (by decide) hjj3 hlj3 ?_
      refine e_load q_138 rfl rfl rfl ?_
      refine e_load q_138 rfl rfl rfl ?_
      refine e_icmp (P := ¬ 0 = x2) q_138 rfl m_c1 (fun c => ?_) (fun c => ?_)
      · replace h := h.1 c
        refine e_push q_138 rfl ?_
        exact e_ireturn q_138 rfl rfl h
      · replace h := h.2 c
        refine e_push q_138 rfl ?_
        refine e_goto q_138 rfl ?_
        exact e_ireturn q_138 rfl rfl h
  · replace h := h.2 c
    refine e_push q_125 rfl ?_
    refine e_goto q_125 rfl ?_
    refine e_zreturn q_125 rfl rfl (by decide) ?_
    show Ev S (d + 2) 138 12 [some (.inr (some 60)), some (.inl x1), some (.inl x2), o3] [.inl 1] σ _
    refine e_store (ls' := [some (.inr (some 60)), some (.inl x1), some (.inl x2), some (.inl 1)]) q_138 rfl (Nat.le_of_ble_eq_true rfl) rfl rfl ?_
    refine e_load q_138 rfl rfl rfl ?_
    refine e_getR q_138 rfl rfl rfl ?_
    refine e_push q_138 rfl ?_
    refine e_load q_138 rfl rfl rfl ?_
    refine e_bin (r := 79 + x1) q_138 rfl rfl ?_
    refine e_load q_138 rfl rfl rfl ?_
    refine e_if (P := x2 = 0) q_138 rfl m_c0 (fun c => ?_) (fun c => ?_)
    · replace h := h.1 c
      refine e_push q_138 rfl ?_
      obtain ⟨j4, hjj4, hlj4, h⟩ := h
      refine e_iast q_138 rfl rfl (by decide) hjj4 hlj4 ?_
      refine e_load q_138 rfl rfl rfl ?_
      refine e_load q_138 rfl rfl rfl ?_
      refine e_icmp (P := ¬ 1 = x2) q_138 rfl m_c1 (fun c => ?_) (fun c => ?_)
      · replace h := h.1 c
        refine e_push q_138 rfl ?_
        exact e_ireturn q_138 rfl rfl h
      · replace h := h.2 c
        refine e_push q_138 rfl ?_
        refine e_goto q_138 rfl ?_
        exact e_ireturn q_138 rfl rfl h
    · replace h := h.2 c
      refine e_push q_138 rfl ?_
      refine e_goto q_138 rfl ?_
      obtain ⟨j5, hjj5, hlj5, h⟩ := h
      refine e_iast q_138 rfl rfl (by decide) hjj5 hlj5 ?_
      refine e_load q_138 rfl rfl rfl ?_
      refine e_load q_138 rfl rfl rfl ?_
      refine e_icmp (P := ¬ 1 = x2) q_138 rfl m_c1 (fun c => ?_) (fun c => ?_)
      · replace h := h.1 c
        refine e_push q_138 rfl ?_
        exact e_ireturn q_138 rfl rfl h
      · replace h := h.2 c
        refine e_push q_138 rfl ?_
        refine e_goto q_138 rfl ?_
        exact e_ireturn q_138 rfl rfl h
theorem g_139_0 {S : Nat × (Nat → Int32)} {d : Nat} {σ : Mem} {Q : MQ1} {x1 : Int32}  (h : ((x1 < 0 → Q [.inl (-100001)] (up σ 60 6 ((σ 60 6) + 1))) ∧ (¬ (x1 < 0) → ((6 < x1 → Q [.inl (-100001)] (up σ 60 6 ((σ 60 6) + 1))) ∧ (¬ (6 < x1) → Ec S d 126 [.inr (some 60)] σ (fun rv σ' => Ev S (d + 1) 139 11 [some (.inr (some 60)), some (.inl x1), none] (rv ++ []) σ' Q)))))) : Ev S (d + 1) 139 0 [some (.inr (some 60)), some (.inl x1), none] [] σ Q := by
  refine e_load q_139 rfl rfl rfl ?_
  refine e_push q_139 rfl ?_
  refine e_push q_139 rfl ?_
  refine e_stat q_139 rfl (Nat.le_of_ble_eq_true rfl) rfl rfl (Nat.le_of_ble_eq_true rfl) ?_
  show Ev S d 119 0 [some (.inl x1), some (.inl 0), some (.inl 6)] [] σ _
  refine e_load q_119 rfl rfl rfl ?_
  refine e_load q_119 rfl rfl rfl ?_
  refine e_icmp (P := x1 < 0) q_119 rfl m_c2 (fun c => ?_) (fun c => ?_)
  · replace h := h.1 c
    refine e_push q_119 rfl ?_
    refine e_zreturn q_119 rfl rfl (by decide) ?_
    show Ev S (d + 1) 139 4 [some (.inr (some 60)), some (.inl x1), none] [.inl 0] σ _
    refine e_if (P := ¬ (0 : Int32) = 0) q_139 rfl m_c1 (fun c => absurd c (by decide)) (fun _ => ?_)
    refine e_load q_139 rfl rfl rfl ?_
    refine e_push q_139 rfl ?_
    refine e_virt q_139 rfl rfl (Nat.le_of_ble_eq_true rfl) rfl rfl (Nat.le_of_ble_eq_true rfl) rfl ?_
    show Ev S d 118 0 [some (.inr (some 60)), some (.inl (-100001))] [] σ _
    refine e_load q_118 rfl rfl rfl ?_
    refine e_dup q_118 rfl ?_
    refine e_getI q_118 rfl rfl rfl ?_
    refine e_push q_118 rfl ?_
    refine e_bin (r := (σ 60 6) + 1) q_118 rfl rfl ?_
    refine e_putI q_118 rfl rfl rfl ?_
    refine e_load q_118 rfl rfl rfl ?_
    refine e_ireturn q_118 rfl rfl ?_
    show Ev S (d + 1) 139 8 [some (.inr (some 60)), some (.inl x1), none] [.inl (-100001)] (up σ 60 6 ((σ 60 6) + 1)) _
    exact e_ireturn q_139 rfl rfl h
  · replace h := h.2 c
    refine e_load q_119 rfl rfl rfl ?_
    refine e_load q_119 rfl rfl rfl ?_
    refine e_icmp (P := 6 < x1) q_119 rfl m_c4 (fun c => ?_) (fun c => ?_)
    · replace h := h.1 c
      refine e_push q_119 rfl ?_
      refine e_zreturn q_119 rfl rfl (by decide) ?_
      show Ev S (d + 1) 139 4 [some (.inr (some 60)), some (.inl x1), none] [.inl 0] σ _
      refine e_if (P := ¬ (0 : Int32) = 0) q_139 rfl m_c1 (fun c => absurd c (by decide)) (fun _ => ?_)
      refine e_load q_139 rfl rfl rfl ?_
      refine e_push q_139 rfl ?_
      refine e_virt q_139 rfl rfl (Nat.le_of_ble_eq_true rfl) rfl rfl (Nat.le_of_ble_eq_true rfl) rfl ?_
      show Ev S d 118 0 [some (.inr (some 60)), some (.inl (-100001))] [] σ _
      refine e_load q_118 rfl rfl rfl ?_
      refine e_dup q_118 rfl ?_
      refine e_getI q_118 rfl rfl rfl ?_
      refine e_push q_118 rfl ?_
      refine e_bin (r := (σ 60 6) + 1) q_118 rfl rfl ?_
      refine e_putI q_118 rfl rfl rfl ?_
      refine e_load q_118 rfl rfl rfl ?_
      refine e_ireturn q_118 rfl rfl ?_
      show Ev S (d + 1) 139 8 [some (.inr (some 60)), some (.inl x1), none] [.inl (-100001)] (up σ 60 6 ((σ 60 6) + 1)) _
      exact e_ireturn q_139 rfl rfl h
    · replace h := h.2 c
      refine e_push q_119 rfl ?_
      refine e_goto q_119 rfl ?_
      refine e_zreturn q_119 rfl rfl (by decide) ?_
      show Ev S (d + 1) 139 4 [some (.inr (some 60)), some (.inl x1), none] [.inl 1] σ _
      refine e_if (P := ¬ (1 : Int32) = 0) q_139 rfl m_c1 (fun _ => ?_) (fun c => absurd (by decide) c)
      refine e_load q_139 rfl rfl rfl ?_
      exact e_virt q_139 rfl rfl (Nat.le_of_ble_eq_true rfl) rfl rfl (Nat.le_of_ble_eq_true rfl) rfl h
theorem g_139_11 {S : Nat × (Nat → Int32)} {d : Nat} {σ : Mem} {Q : MQ1} {x1 : Int32} {o2 : Option MV}  (h : Q [.inl (σ 61 85)] (up σ 61 85 x1)) : Ev S (d + 1) 139 11 [some (.inr (some 60)), some (.inl x1), o2] [] σ Q := by
  refine e_load q_139 rfl rfl rfl ?_
  refine e_getR q_139 rfl rfl rfl ?_
  refine e_push q_139 rfl ?_
  refine e_iald (j := 85) q_139 rfl rfl (by decide) (by decide +kernel) (by decide) ?_
  refine e_store (ls' := [some (.inr (some 60)), some (.inl x1), some (.inl (σ 61 85))]) q_139 rfl (Nat.le_of_ble_eq_true rfl) rfl rfl ?_
  refine e_load q_139 rfl rfl rfl ?_
  refine e_getR q_139 rfl rfl rfl ?_
  refine e_push q_139 rfl ?_
  refine e_load q_139 rfl rfl rfl ?_
  refine e_iast (j := 85) q_139 rfl rfl (by decide) (by decide +kernel) (by decide) ?_
  refine e_load q_139 rfl rfl rfl ?_
  exact e_ireturn q_139 rfl rfl h
theorem g_141_0 {S : Nat × (Nat → Int32)} {d : Nat} {σ : Mem} {Q : MQ1} {x1 : Int32} {x2 : Int32} {x3 : Int32}  (h : ((x1 < 0 → Q [.inl (-100001)] (up σ 60 6 ((σ 60 6) + 1))) ∧ (¬ (x1 < 0) → ((3 < x1 → Q [.inl (-100001)] (up σ 60 6 ((σ 60 6) + 1))) ∧ (¬ (3 < x1) → ((x2 = 0 → ((0 ≤ x3 → ((x3 ≤ 6 → (∃ j1 : Nat, x1 = nI j1 ∧ j1 < 4 ∧ (((¬ x2 = 0) → (∃ j2 : Nat, x1 = nI j2 ∧ j2 < 4 ∧ Ev S (d + 2) 141 47 [some (.inr (some 60)), some (.inl x1), some (.inl x2), some (.inl x3), some (.inl 0)] [] (up (up σ 63 j1 x2) 64 j2 x3) Q)) ∧ (¬ (¬ x2 = 0) → (∃ j3 : Nat, x1 = nI j3 ∧ j3 < 4 ∧ Ev S (d + 2) 141 47 [some (.inr (some 60)), some (.inl x1), some (.inl x2), some (.inl x3), some (.inl 0)] [] (up (up σ 63 j1 x2) 64 j3 0) Q))))) ∧ (¬ (x3 ≤ 6) → Q [.inl (-100001)] (up σ 60 6 ((σ 60 6) + 1))))) ∧ (¬ (0 ≤ x3) → Q [.inl (-100003)] (up σ 60 6 ((σ 60 6) + 1))))) ∧ (¬ (x2 = 0) → ((x2 = 8 → ((0 ≤ x3 → ((x3 ≤ 6 → (∃ j4 : Nat, x1 = nI j4 ∧ j4 < 4 ∧ (((¬ x2 = 0) → (∃ j5 : Nat, x1 = nI j5 ∧ j5 < 4 ∧ Ev S (d + 2) 141 47 [some (.inr (some 60)), some (.inl x1), some (.inl x2), some (.inl x3), some (.inl 0)] [] (up (up σ 63 j4 x2) 64 j5 x3) Q)) ∧ (¬ (¬ x2 = 0) → (∃ j6 : Nat, x1 = nI j6 ∧ j6 < 4 ∧ Ev S (d + 2) 141 47 [some (.inr (some 60)), some (.inl x1), some (.inl x2), some (.inl x3), some (.inl 0)] [] (up (up σ 63 j4 x2) 64 j6 0) Q))))) ∧ (¬ (x3 ≤ 6) → Q [.inl (-100001)] (up σ 60 6 ((σ 60 6) + 1))))) ∧ (¬ (0 ≤ x3) → Q [.inl (-100003)] (up σ 60 6 ((σ 60 6) + 1))))) ∧ (¬ (x2 = 8) → ((x2 = 16 → ((0 ≤ x3 → ((x3 ≤ 6 → (∃ j7 : Nat, x1 = nI j7 ∧ j7 < 4 ∧ (((¬ x2 = 0) → (∃ j8 : Nat, x1 = nI j8 ∧ j8 < 4 ∧ Ev S (d + 2) 141 47 [some (.inr (some 60)), some (.inl x1), some (.inl x2), some (.inl x3), some (.inl 0)] [] (up (up σ 63 j7 x2) 64 j8 x3) Q)) ∧ (¬ (¬ x2 = 0) → (∃ j9 : Nat, x1 = nI j9 ∧ j9 < 4 ∧ Ev S (d + 2) 141 47 [some (.inr (some 60)), some (.inl x1), some (.inl x2), some (.inl x3), some (.inl 0)] [] (up (up σ 63 j7 x2) 64 j9 0) Q))))) ∧ (¬ (x3 ≤ 6) → Q [.inl (-100001)] (up σ 60 6 ((σ 60 6) + 1))))) ∧ (¬ (0 ≤ x3) → Q [.inl (-100003)] (up σ 60 6 ((σ 60 6) + 1))))) ∧ (¬ (x2 = 16) → ((x2 = 32 → ((0 ≤ x3 → ((x3 ≤ 6 → (∃ j10 : Nat, x1 = nI j10 ∧ j10 < 4 ∧ (((¬ x2 = 0) → (∃ j11 : Nat, x1 = nI j11 ∧ j11 < 4 ∧ Ev S (d + 2) 141 47 [some (.inr (some 60)), some (.inl x1), some (.inl x2), some (.inl x3), some (.inl 0)] [] (up (up σ 63 j10 x2) 64 j11 x3) Q)) ∧ (¬ (¬ x2 = 0) → (∃ j12 : Nat, x1 = nI j12 ∧ j12 < 4 ∧ Ev S (d + 2) 141 47 [some (.inr (some 60)), some (.inl x1), some (.inl x2), some (.inl x3), some (.inl 0)] [] (up (up σ 63 j10 x2) 64 j12 0) Q))))) ∧ (¬ (x3 ≤ 6) → Q [.inl (-100001)] (up σ 60 6 ((σ 60 6) + 1))))) ∧ (¬ (0 ≤ x3) → Q [.inl (-100003)] (up σ 60 6 ((σ 60 6) + 1))))) ∧ (¬ (x2 = 32) → Q [.inl (-100001)] (up σ 60 6 ((σ 60 6) + 1))))))))))))))) : Ev S (d + 2) 141 0 [some (.inr (some 60)), some (.inl x1), some (.inl x2), some (.inl x3), none] [] σ Q := by
  refine e_load q_141 rfl rfl rfl ?_
  refine e_stat q_141 rfl (Nat.le_of_ble_eq_true rfl) rfl rfl (Nat.le_of_ble_eq_true rfl) ?_
  show Ev S (d + 1) 140 0 [some (.inl x1)] [] σ _
  refine e_load q_140 rfl rfl rfl ?_
  refine e_push q_140 rfl ?_
  refine e_push q_140 rfl ?_
  refine e_stat q_140 rfl (Nat.le_of_ble_eq_true rfl) rfl rfl (Nat.le_of_ble_eq_true rfl) ?_
  show Ev S d 119 0 [some (.inl x1), some (.inl 0), some (.inl 3)] [] σ _
  refine e_load q_119 rfl rfl rfl ?_
  refine e_load q_119 rfl rfl rfl ?_
  refine e_icmp (P := x1 < 0) q_119 rfl m_c2 (fun c => ?_) (fun c => ?_)
  · replace h := h.1 c
    refine e_push q_119 rfl ?_
    refine e_zreturn q_119 rfl rfl (by decide) ?_
    show Ev S (d + 1) 140 4 [some (.inl x1)] [.inl 0] σ _
    refine e_zreturn q_140 rfl rfl (by decide) ?_
    show Ev S (d + 2) 141 2 [some (.inr (some 60)), some (.inl x1), some (.inl x2), some (.inl x3), none] [.inl 0] σ _
    refine e_if (P := (0 : Int32) = 0) q_141 rfl m_c0 (fun _ => ?_) (fun c => absurd (by decide) c)
    refine e_load q_141 rfl rfl rfl ?_
    refine e_push q_141 rfl ?_
    refine e_virt q_141 rfl rfl (Nat.le_of_ble_eq_true rfl) rfl rfl (Nat.le_of_ble_eq_true rfl) rfl ?_
    show Ev S (d + 1) 118 0 [some (.inr (some 60)), some (.inl (-100001))] [] σ _
    refine e_load q_118 rfl rfl rfl ?_
    refine e_dup q_118 rfl ?_
    refine e_getI q_118 rfl rfl rfl ?_
    refine e_push q_118 rfl ?_
    refine e_bin (r := (σ 60 6) + 1) q_118 rfl rfl ?_
    refine e_putI q_118 rfl rfl rfl ?_
    refine e_load q_118 rfl rfl rfl ?_
    refine e_ireturn q_118 rfl rfl ?_
    show Ev S (d + 2) 141 17 [some (.inr (some 60)), some (.inl x1), some (.inl x2), some (.inl x3), none] [.inl (-100001)] (up σ 60 6 ((σ 60 6) + 1)) _
    exact e_ireturn q_141 rfl rfl h
  · replace h := h.2 c
    refine e_load q_119 rfl rfl rfl ?_
    refine e_load q_119 rfl rfl rfl ?_
    refine e_icmp (P := 3 < x1) q_119 rfl m_c4 (fun c => ?_) (fun c => ?_)
    · replace h := h.1 c
      refine e_push q_119 rfl ?_
      refine e_zreturn q_119 rfl rfl (by decide) ?_
      show Ev S (d + 1) 140 4 [some (.inl x1)] [.inl 0] σ _
      refine e_zreturn q_140 rfl rfl (by decide) ?_
      show Ev S (d + 2) 141 2 [some (.inr (some 60)), some (.inl x1), some (.inl x2), some (.inl x3), none] [.inl 0] σ _
      refine e_if (P := (0 : Int32) = 0) q_141 rfl m_c0 (fun _ => ?_) (fun c => absurd (by decide) c)
      refine e_load q_141 rfl rfl rfl ?_
      refine e_push q_141 rfl ?_
      refine e_virt q_141 rfl rfl (Nat.le_of_ble_eq_true rfl) rfl rfl (Nat.le_of_ble_eq_true rfl) rfl ?_
      show Ev S (d + 1) 118 0 [some (.inr (some 60)), some (.inl (-100001))] [] σ _
      refine e_load q_118 rfl rfl rfl ?_
      refine e_dup q_118 rfl ?_
      refine e_getI q_118 rfl rfl rfl ?_
      refine e_push q_118 rfl ?_
      refine e_bin (r := (σ 60 6) + 1) q_118 rfl rfl ?_
      refine e_putI q_118 rfl rfl rfl ?_
      refine e_load q_118 rfl rfl rfl ?_
      refine e_ireturn q_118 rfl rfl ?_
      show Ev S (d + 2) 141 17 [some (.inr (some 60)), some (.inl x1), some (.inl x2), some (.inl x3), none] [.inl (-100001)] (up σ 60 6 ((σ 60 6) + 1)) _
      exact e_ireturn q_141 rfl rfl h
    · replace h := h.2 c
      refine e_push q_119 rfl ?_
      refine e_goto q_119 rfl ?_
      refine e_zreturn q_119 rfl rfl (by decide) ?_
      show Ev S (d + 1) 140 4 [some (.inl x1)] [.inl 1] σ _
      refine e_zreturn q_140 rfl rfl (by decide) ?_
      show Ev S (d + 2) 141 2 [some (.inr (some 60)), some (.inl x1), some (.inl x2), some (.inl x3), none] [.inl 1] σ _
      refine e_if (P := (1 : Int32) = 0) q_141 rfl m_c0 (fun c => absurd c (by decide)) (fun _ => ?_)
      refine e_load q_141 rfl rfl rfl ?_
      refine e_if (P := x2 = 0) q_141 rfl m_c0 (fun c => ?_) (fun c => ?_)
      · replace h := h.1 c
        refine e_load q_141 rfl rfl rfl ?_
        refine e_if (P := 0 ≤ x3) q_141 rfl m_c3 (fun c => ?_) (fun c => ?_)
        · replace h := h.1 c
          refine e_load q_141 rfl rfl rfl ?_
          refine e_push q_141 rfl ?_
          refine e_icmp (P := x3 ≤ 6) q_141 rfl m_c5 (fun c => ?_) (fun c => ?_)
          · replace h := h.1 c
            refine e_load q_141 rfl rfl rfl ?_
            refine e_getR q_141 rfl rfl rfl ?_
            refine e_load q_141 rfl rfl rfl ?_
            refine e_load q_141 rfl rfl rfl ?_
            obtain ⟨j1, hjj1, hlj1, h⟩ := h
            refine e_iast q_141 rfl rfl (by decide) hjj1 hlj1 ?_
            refine e_load q_141 rfl rfl rfl ?_
            refine e_getR q_141 rfl rfl rfl ?_
            refine e_load q_141 rfl rfl rfl ?_
            refine e_load q_141 rfl rfl rfl ?_
            refine e_if (P := ¬ x2 = 0) q_141 rfl m_c1 (fun c => ?_) (fun c => ?_)
            · replace h := h.1 c
              refine e_load q_141 rfl rfl rfl ?_
              obtain ⟨j2, hjj2, hlj2, h⟩ := h
              refine e_iast q_141 rfl rfl (by decide) hjj2 hlj2 ?_
              refine e_push q_141 rfl ?_
              refine e_store (ls' := [some (.inr (some 60)), some (.inl x1), some (.inl x2), some (.inl x3), some (.inl 0)]) q_141 rfl (Nat.le_of_ble_eq_true rfl) rfl rfl ?_
              exact h
            · replace h := h.2 c
              refine e_push q_141 rfl ?_
              refine e_goto q_141 rfl ?_
              obtain ⟨j3, hjj3, hlj3, h⟩ := h
              refine e_iast q_141 rfl rfl (by decide) hjj3 hlj3 ?_
              refine e_push q_141 rfl ?_
              refine e_store (ls' := [some (.inr (some 60)), some (.inl x1), some (.inl x2), some (.inl x3), some (.inl 0)]) q_141 rfl (Nat.le_of_ble_eq_true rfl) rfl rfl ?_
              exact h
          · replace h := h.2 c
            refine e_load q_141 rfl rfl rfl ?_
            refine e_push q_141 rfl ?_
            refine e_virt q_141 rfl rfl (Nat.le_of_ble_eq_true rfl) rfl rfl (Nat.le_of_ble_eq_true rfl) rfl ?_
            show Ev S (d + 1) 118 0 [some (.inr (some 60)), some (.inl (-100001))] [] σ _
            refine e_load q_118 rfl rfl rfl ?_
            refine e_dup q_118 rfl ?_
            refine e_getI q_118 rfl rfl rfl ?_
            refine e_push q_118 rfl ?_
            refine e_bin (r := (σ 60 6) + 1) q_118 rfl rfl ?_
            refine e_putI q_118 rfl rfl rfl ?_
            refine e_load q_118 rfl rfl rfl ?_
            refine e_ireturn q_118 rfl rfl ?_
            show Ev S (d + 2) 141 30 [some (.inr (some 60)), some (.inl x1), some (.inl x2), some (.inl x3), none] [.inl (-100001)] (up σ 60 6 ((σ 60 6) + 1)) _
            exact e_ireturn q_141 rfl rfl h
        · replace h := h.2 c
          refine e_load q_141 rfl rfl rfl ?_
          refine e_push q_141 rfl ?_
          refine e_virt q_141 rfl rfl (Nat.le_of_ble_eq_true rfl) rfl rfl (Nat.le_of_ble_eq_true rfl) rfl ?_
          show Ev S (d + 1) 118 0 [some (.inr (some 60)), some (.inl (-100003))] [] σ _
          refine e_load q_118 rfl rfl rfl ?_
          refine e_dup q_118 rfl ?_
          refine e_getI q_118 rfl rfl rfl ?_
          refine e_push q_118 rfl ?_
          refine e_bin (r := (σ 60 6) + 1) q_118 rfl rfl ?_
          refine e_putI q_118 rfl rfl rfl ?_
          refine e_load q_118 rfl rfl rfl ?_
          refine e_ireturn q_118 rfl rfl ?_
          show Ev S (d + 2) 141 23 [some (.inr (some 60)), some (.inl x1), some (.inl x2), some (.inl x3), none] [.inl (-100003)] (up σ 60 6 ((σ 60 6) + 1)) _
          exact e_ireturn q_141 rfl rfl h
      · replace h := h.2 c
        refine e_load q_141 rfl rfl rfl ?_
        refine e_push q_141 rfl ?_
        refine e_icmp (P := x2 = 8) q_141 rfl m_c0 (fun c => ?_) (fun c => ?_)
        · replace h := h.1 c
          refine e_load q_141 rfl rfl rfl ?_
          refine e_if (P := 0 ≤ x3) q_141 rfl m_c3 (fun c => ?_) (fun c => ?_)
          · replace h := h.1 c
            refine e_load q_141 rfl rfl rfl ?_
            refine e_push q_141 rfl ?_
            refine e_icmp (P := x3 ≤ 6) q_141 rfl m_c5 (fun c => ?_) (fun c => ?_)
            · replace h := h.1 c
              refine e_load q_141 rfl rfl rfl ?_
              refine e_getR q_141 rfl rfl rfl ?_
              refine e_load q_141 rfl rfl rfl ?_
              refine e_load q_141 rfl rfl rfl ?_
              obtain ⟨j4, hjj4, hlj4, h⟩ := h
              refine e_iast q_141 rfl rfl (by decide) hjj4 hlj4 ?_
              refine e_load q_141 rfl rfl rfl ?_
              refine e_getR q_141 rfl rfl rfl ?_
              refine e_load q_141 rfl rfl rfl ?_
              refine e_load q_141 rfl rfl rfl ?_
              refine e_if (P := ¬ x2 = 0) q_141 rfl m_c1 (fun c => ?_) (fun c => ?_)
              · replace h := h.1 c
                refine e_load q_141 rfl rfl rfl ?_
                obtain ⟨j5, hjj5, hlj5, h⟩ := h
                refine e_iast q_141 rfl rfl (by decide) hjj5 hlj5 ?_
                refine e_push q_141 rfl ?_
                refine e_store (ls' := [some (.inr (some 60)), some (.inl x1), some (.inl x2), some (.inl x3), some (.inl 0)]) q_141 rfl (Nat.le_of_ble_eq_true rfl) rfl rfl ?_
                exact h
              · replace h := h.2 c
                refine e_push q_141 rfl ?_
                refine e_goto q_141 rfl ?_
                obtain ⟨j6, hjj6, hlj6, h⟩ := h
                refine e_iast q_141 rfl rfl (by decide) hjj6 hlj6 ?_
                refine e_push q_141 rfl ?_
                refine e_store (ls' := [some (.inr (some 60)), some (.inl x1), some (.inl x2), some (.inl x3), some (.inl 0)]) q_141 rfl (Nat.le_of_ble_eq_true rfl) rfl rfl ?_
                exact h
            · replace h := h.2 c
              refine e_load q_141 rfl rfl rfl ?_
              refine e_push q_141 rfl ?_
              refine e_virt q_141 rfl rfl (Nat.le_of_ble_eq_true rfl) rfl rfl (Nat.le_of_ble_eq_true rfl) rfl ?_
              show Ev S (d + 1) 118 0 [some (.inr (some 60)), some (.inl (-100001))] [] σ _
              refine e_load q_118 rfl rfl rfl ?_
              refine e_dup q_118 rfl ?_
              refine e_getI q_118 rfl rfl rfl ?_
              refine e_push q_118 rfl ?_
              refine e_bin (r := (σ 60 6) + 1) q_118 rfl rfl ?_
              refine e_putI q_118 rfl rfl rfl ?_
              refine e_load q_118 rfl rfl rfl ?_
              refine e_ireturn q_118 rfl rfl ?_
              show Ev S (d + 2) 141 30 [some (.inr (some 60)), some (.inl x1), some (.inl x2), some (.inl x3), none] [.inl (-100001)] (up σ 60 6 ((σ 60 6) + 1)) _
              exact e_ireturn q_141 rfl rfl h
          · replace h := h.2 c
            refine e_load q_141 rfl rfl rfl ?_
            refine e_push q_141 rfl ?_
            refine e_virt q_141 rfl rfl (Nat.le_of_ble_eq_true rfl) rfl rfl (Nat.le_of_ble_eq_true rfl) rfl ?_
            show Ev S (d + 1) 118 0 [some (.inr (some 60)), some (.inl (-100003))] [] σ _
            refine e_load q_118 rfl rfl rfl ?_
            refine e_dup q_118 rfl ?_
            refine e_getI q_118 rfl rfl rfl ?_
            refine e_push q_118 rfl ?_
            refine e_bin (r := (σ 60 6) + 1) q_118 rfl rfl ?_
            refine e_putI q_118 rfl rfl rfl ?_
            refine e_load q_118 rfl rfl rfl ?_
            refine e_ireturn q_118 rfl rfl ?_
            show Ev S (d + 2) 141 23 [some (.inr (some 60)), some (.inl x1), some (.inl x2), some (.inl x3), none] [.inl (-100003)] (up σ 60 6 ((σ 60 6) + 1)) _
            exact e_ireturn q_141 rfl rfl h
        · replace h := h.2 c
          refine e_load q_141 rfl rfl rfl ?_
          refine e_push q_141 rfl ?_
          refine e_icmp (P := x2 = 16) q_141 rfl m_c0 (fun c => ?_) (fun c => ?_)
          · replace h := h.1 c
            refine e_load q_141 rfl rfl rfl ?_
            refine e_if (P := 0 ≤ x3) q_141 rfl m_c3 (fun c => ?_) (fun c => ?_)
            · replace h := h.1 c
              refine e_load q_141 rfl rfl rfl ?_
              refine e_push q_141 rfl ?_
              refine e_icmp (P := x3 ≤ 6) q_141 rfl m_c5 (fun c => ?_) (fun c => ?_)
              · replace h := h.1 c
                refine e_load q_141 rfl rfl rfl ?_
                refine e_getR q_141 rfl rfl rfl ?_
                refine e_load q_141 rfl rfl rfl ?_
                refine e_load q_141 rfl rfl rfl ?_
                obtain ⟨j7, hjj7, hlj7, h⟩ := h
                refine e_iast q_141 rfl rfl (by decide) hjj7 hlj7 ?_
                refine e_load q_141 rfl rfl rfl ?_
                refine e_getR q_141 rfl rfl rfl ?_
                refine e_load q_141 rfl rfl rfl ?_
                refine e_load q_141 rfl rfl rfl ?_
                refine e_if (P := ¬ x2 = 0) q_141 rfl m_c1 (fun c => ?_) (fun c => ?_)
                · replace h := h.1 c
                  refine e_load q_141 rfl rfl rfl ?_
                  obtain ⟨j8, hjj8, hlj8, h⟩ := h
                  refine e_iast q_141 rfl rfl (by decide) hjj8 hlj8 ?_
                  refine e_push q_141 rfl ?_
                  refine e_store (ls' := [some (.inr (some 60)), some (.inl x1), some (.inl x2), some (.inl x3), some (.inl 0)]) q_141 rfl (Nat.le_of_ble_eq_true rfl) rfl rfl ?_
                  exact h
                · replace h := h.2 c
                  refine e_push q_141 rfl ?_
                  refine e_goto q_141 rfl ?_
                  obtain ⟨j9, hjj9, hlj9, h⟩ := h
                  refine e_iast q_141 rfl rfl (by decide) hjj9 hlj9 ?_
                  refine e_push q_141 rfl ?_
                  refine e_store (ls' := [some (.inr (some 60)), some (.inl x1), some (.inl x2), some (.inl x3), some (.inl 0)]) q_141 rfl (Nat.le_of_ble_eq_true rfl) rfl rfl ?_
                  exact h
              · replace h := h.2 c
                refine e_load q_141 rfl rfl rfl ?_
                refine e_push q_141 rfl ?_
                refine e_virt q_141 rfl rfl (Nat.le_of_ble_eq_true rfl) rfl rfl (Nat.le_of_ble_eq_true rfl) rfl ?_
                show Ev S (d + 1) 118 0 [some (.inr (some 60)), some (.inl (-100001))] [] σ _
                refine e_load q_118 rfl rfl rfl ?_
                refine e_dup q_118 rfl ?_
                refine e_getI q_118 rfl rfl rfl ?_
                refine e_push q_118 rfl ?_
                refine e_bin (r := (σ 60 6) + 1) q_118 rfl rfl ?_
                refine e_putI q_118 rfl rfl rfl ?_
                refine e_load q_118 rfl rfl rfl ?_
                refine e_ireturn q_118 rfl rfl ?_
                show Ev S (d + 2) 141 30 [some (.inr (some 60)), some (.inl x1), some (.inl x2), some (.inl x3), none] [.inl (-100001)] (up σ 60 6 ((σ 60 6) + 1)) _
                exact e_ireturn q_141 rfl rfl h
            · replace h := h.2 c
              refine e_load q_141 rfl rfl rfl ?_
              refine e_push q_141 rfl ?_
              refine e_virt q_141 rfl rfl (Nat.le_of_ble_eq_true rfl) rfl rfl (Nat.le_of_ble_eq_true rfl) rfl ?_
              show Ev S (d + 1) 118 0 [some (.inr (some 60)), some (.inl (-100003))] [] σ _
              refine e_load q_118 rfl rfl rfl ?_
              refine e_dup q_118 rfl ?_
              refine e_getI q_118 rfl rfl rfl ?_
              refine e_push q_118 rfl ?_
              refine e_bin (r := (σ 60 6) + 1) q_118 rfl rfl ?_
              refine e_putI q_118 rfl rfl rfl ?_
              refine e_load q_118 rfl rfl rfl ?_
              refine e_ireturn q_118 rfl rfl ?_
              show Ev S (d + 2) 141 23 [some (.inr (some 60)), some (.inl x1), some (.inl x2), some (.inl x3), none] [.inl (-100003)] (up σ 60 6 ((σ 60 6) + 1)) _
              exact e_ireturn q_141 rfl rfl h
          · replace h := h.2 c
            refine e_load q_141 rfl rfl rfl ?_
            refine e_push q_141 rfl ?_
            refine e_icmp (P := x2 = 32) q_141 rfl m_c0 (fun c => ?_) (fun c => ?_)
            · replace h := h.1 c
              refine e_load q_141 rfl rfl rfl ?_
              refine e_if (P := 0 ≤ x3) q_141 rfl m_c3 (fun c => ?_) (fun c => ?_)
              · replace h := h.1 c
                refine e_load q_141 rfl rfl rfl ?_
                refine e_push q_141 rfl ?_
                refine e_icmp (P := x3 ≤ 6) q_141 rfl m_c5 (fun c => ?_) (fun c => ?_)
                · replace h := h.1 c
                  refine e_load q_141 rfl rfl rfl ?_
                  refine e_getR q_141 rfl rfl rfl ?_
                  refine e_load q_141 rfl rfl rfl ?_
                  refine e_load q_141 rfl rfl rfl ?_
                  obtain ⟨j10, hjj10, hlj10, h⟩ := h
                  refine e_iast q_141 rfl rfl (by decide) hjj10 hlj10 ?_
                  refine e_load q_141 rfl rfl rfl ?_
                  refine e_getR q_141 rfl rfl rfl ?_
                  refine e_load q_141 rfl rfl rfl ?_
                  refine e_load q_141 rfl rfl rfl ?_
                  refine e_if (P := ¬ x2 = 0) q_141 rfl m_c1 (fun c => ?_) (fun c => ?_)
                  · replace h := h.1 c
                    refine e_load q_141 rfl rfl rfl ?_
                    obtain ⟨j11, hjj11, hlj11, h⟩ := h
                    refine e_iast q_141 rfl rfl (by decide) hjj11 hlj11 ?_
                    refine e_push q_141 rfl ?_
                    refine e_store (ls' := [some (.inr (some 60)), some (.inl x1), some (.inl x2), some (.inl x3), some (.inl 0)]) q_141 rfl (Nat.le_of_ble_eq_true rfl) rfl rfl ?_
                    exact h
                  · replace h := h.2 c
                    refine e_push q_141 rfl ?_
                    refine e_goto q_141 rfl ?_
                    obtain ⟨j12, hjj12, hlj12, h⟩ := h
                    refine e_iast q_141 rfl rfl (by decide) hjj12 hlj12 ?_
                    refine e_push q_141 rfl ?_
                    refine e_store (ls' := [some (.inr (some 60)), some (.inl x1), some (.inl x2), some (.inl x3), some (.inl 0)]) q_141 rfl (Nat.le_of_ble_eq_true rfl) rfl rfl ?_
                    exact h
                · replace h := h.2 c
                  refine e_load q_141 rfl rfl rfl ?_
                  refine e_push q_141 rfl ?_
                  refine e_virt q_141 rfl rfl (Nat.le_of_ble_eq_true rfl) rfl rfl (Nat.le_of_ble_eq_true rfl) rfl ?_
                  show Ev S (d + 1) 118 0 [some (.inr (some 60)), some (.inl (-100001))] [] σ _
                  refine e_load q_118 rfl rfl rfl ?_
                  refine e_dup q_118 rfl ?_
                  refine e_getI q_118 rfl rfl rfl ?_
                  refine e_push q_118 rfl ?_
                  refine e_bin (r := (σ 60 6) + 1) q_118 rfl rfl ?_
                  refine e_putI q_118 rfl rfl rfl ?_
                  refine e_load q_118 rfl rfl rfl ?_
                  refine e_ireturn q_118 rfl rfl ?_
                  show Ev S (d + 2) 141 30 [some (.inr (some 60)), some (.inl x1), some (.inl x2), some (.inl x3), none] [.inl (-100001)] (up σ 60 6 ((σ 60 6) + 1)) _
                  exact e_ireturn q_141 rfl rfl h
              · replace h := h.2 c
                refine e_load q_141 rfl rfl rfl ?_
                refine e_push q_141 rfl ?_
                refine e_virt q_141 rfl rfl (Nat.le_of_ble_eq_true rfl) rfl rfl (Nat.le_of_ble_eq_true rfl) rfl ?_
                show Ev S (d + 1) 118 0 [some (.inr (some 60)), some (.inl (-100003))] [] σ _
                refine e_load q_118 rfl rfl rfl ?_
                refine e_dup q_118 rfl ?_
                refine e_getI q_118 rfl rfl rfl ?_
                refine e_push q_118 rfl ?_
                refine e_bin (r := (σ 60 6) + 1) q_118 rfl rfl ?_
                refine e_putI q_118 rfl rfl rfl ?_
                refine e_load q_118 rfl rfl rfl ?_
                refine e_ireturn q_118 rfl rfl ?_
                show Ev S (d + 2) 141 23 [some (.inr (some 60)), some (.inl x1), some (.inl x2), some (.inl x3), none] [.inl (-100003)] (up σ 60 6 ((σ 60 6) + 1)) _
                exact e_ireturn q_141 rfl rfl h
            · replace h := h.2 c
              refine e_load q_141 rfl rfl rfl ?_
              refine e_push q_141 rfl ?_
              refine e_virt q_141 rfl rfl (Nat.le_of_ble_eq_true rfl) rfl rfl (Nat.le_of_ble_eq_true rfl) rfl ?_
              show Ev S (d + 1) 118 0 [some (.inr (some 60)), some (.inl (-100001))] [] σ _
              refine e_load q_118 rfl rfl rfl ?_
              refine e_dup q_118 rfl ?_
              refine e_getI q_118 rfl rfl rfl ?_
              refine e_push q_118 rfl ?_
              refine e_bin (r := (σ 60 6) + 1) q_118 rfl rfl ?_
              refine e_putI q_118 rfl rfl rfl ?_
              refine e_load q_118 rfl rfl rfl ?_
              refine e_ireturn q_118 rfl rfl ?_
              show Ev S (d + 2) 141 17 [some (.inr (some 60)), some (.inl x1), some (.inl x2), some (.inl x3), none] [.inl (-100001)] (up σ 60 6 ((σ 60 6) + 1)) _
              exact e_ireturn q_141 rfl rfl h
theorem g_141_47 {S : Nat × (Nat → Int32)} {d : Nat} {σ : Mem} {Q : MQ1} {x1 : Int32} {o2 : Option MV} {o3 : Option MV} {x4 : Int32}  (h : ((6 ≤ x4 → (∃ j1 : Nat, x1 = nI j1 ∧ j1 < 4 ∧ Q [.inl (σ 64 j1)] σ)) ∧ (¬ (6 ≤ x4) → (∃ j2 : Nat, (6 * x1) + x4 = nI j2 ∧ j2 < 24 ∧ Ev S (d + 2) 141 47 [some (.inr (some 60)), some (.inl x1), o2, o3, some (.inl (x4 + 1))] [] (up σ 65 j2 0) Q)))) : Ev S (d + 2) 141 47 [some (.inr (some 60)), some (.inl x1), o2, o3, some (.inl x4)] [] σ Q := by
  refine e_load q_141 rfl rfl rfl ?_
  refine e_push q_141 rfl ?_
  refine e_icmp (P := 6 ≤ x4) q_141 rfl m_c3 (fun c => ?_) (fun c => ?_)
  · replace h := h.1 c
    refine e_load q_141 rfl rfl rfl ?_
    refine e_getR q_141 rfl rfl rfl ?_
    refine e_load q_141 rfl rfl rfl ?_
    obtain ⟨j1, hjj1, hlj1, h⟩ := h
    refine e_iald q_141 rfl rfl (by decide) hjj1 hlj1 ?_
    exact e_ireturn q_141 rfl rfl h
  · replace h := h.2 c
    refine e_load q_141 rfl rfl rfl ?_
    refine e_getR q_141 rfl rfl rfl ?_
    refine e_push q_141 rfl ?_
    refine e_load q_141 rfl rfl rfl ?_
    refine e_bin (r := 6 * x1) q_141 rfl rfl ?_
    refine e_load q_141 rfl rfl rfl ?_
    refine e_bin (r := (6 * x1) + x4) q_141 rfl rfl ?_
    refine e_push q_141 rfl ?_
    obtain ⟨j2, hjj2, hlj2, h⟩ := h
    refine e_iast q_141 rfl rfl (by decide) hjj2 hlj2 ?_
    refine e_iinc (ls' := [some (.inr (some 60)), some (.inl x1), o2, o3, some (.inl (x4 + 1))]) q_141 rfl rfl rfl ?_
    refine e_goto q_141 rfl ?_
    exact h
theorem g_142_0 {S : Nat × (Nat → Int32)} {d : Nat} {σ : Mem} {Q : MQ1} {x1 : Int32} {x2 : Int32} {x3 : Int32}  (h : ((x1 < 0 → Q [.inl (-100001)] (up σ 60 6 ((σ 60 6) + 1))) ∧ (¬ (x1 < 0) → ((3 < x1 → Q [.inl (-100001)] (up σ 60 6 ((σ 60 6) + 1))) ∧ (¬ (3 < x1) → (∃ j1 : Nat, x1 = nI j1 ∧ j1 < 4 ∧ (((¬ (σ 63 j1) = 0) → ((x2 < 0 → Q [.inl (-100001)] (up σ 60 6 ((σ 60 6) + 1))) ∧ (¬ (x2 < 0) → (∃ j2 : Nat, x1 = nI j2 ∧ j2 < 4 ∧ ((x2 < (σ 64 j2) → (∃ j3 : Nat, x1 = nI j3 ∧ j3 < 4 ∧ (((¬ (σ 63 j3) = 8) → (∃ j4 : Nat, x1 = nI j4 ∧ j4 < 4 ∧ (((¬ (σ 63 j4) = 16) → (∃ j5 : Nat, (6 * x1) + x2 = nI j5 ∧ j5 < 24 ∧ Q [.inl 0] (up σ 65 j5 x3))) ∧ (¬ (¬ (σ 63 j4) = 16) → (∃ j6 : Nat, (6 * x1) + x2 = nI j6 ∧ j6 < 24 ∧ Q [.inl 0] (up σ 65 j6 (x3.toInt16.toInt32))))))) ∧ (¬ (¬ (σ 63 j3) = 8) → (∃ j7 : Nat, (6 * x1) + x2 = nI j7 ∧ j7 < 24 ∧ Q [.inl 0] (up σ 65 j7 (x3.toInt8.toInt32))))))) ∧ (¬ (x2 < (σ 64 j2)) → Q [.inl (-100001)] (up σ 60 6 ((σ 60 6) + 1)))))))) ∧ (¬ (¬ (σ 63 j1) = 0) → Q [.inl (-100002)] (up σ 60 6 ((σ 60 6) + 1)))))))))) : Ev S (d + 2) 142 0 [some (.inr (some 60)), some (.inl x1), some (.inl x2), some (.inl x3)] [] σ Q := by
  refine e_load q_142 rfl rfl rfl ?_
  refine e_stat q_142 rfl (Nat.le_of_ble_eq_true rfl) rfl rfl (Nat.le_of_ble_eq_true rfl) ?_
  show Ev S (d + 1) 140 0 [some (.inl x1)] [] σ _
  refine e_load q_140 rfl rfl rfl ?_
  refine e_push q_140 rfl ?_
  refine e_push q_140 rfl ?_
  refine e_stat q_140 rfl (Nat.le_of_ble_eq_true rfl) rfl rfl (Nat.le_of_ble_eq_true rfl) ?_
  show Ev S d 119 0 [some (.inl x1), some (.inl 0), some (.inl 3)] [] σ _
  refine e_load q_119 rfl rfl rfl ?_
  refine e_load q_119 rfl rfl rfl ?_
  refine e_icmp (P := x1 < 0) q_119 rfl m_c2 (fun c => ?_) (fun c => ?_)
  · replace h := h.1 c
    refine e_push q_119 rfl ?_
    refine e_zreturn q_119 rfl rfl (by decide) ?_
    show Ev S (d + 1) 140 4 [some (.inl x1)] [.inl 0] σ _
    refine e_zreturn q_140 rfl rfl (by decide) ?_
    show Ev S (d + 2) 142 2 [some (.inr (some 60)), some (.inl x1), some (.inl x2), some (.inl x3)] [.inl 0] σ _
    refine e_if (P := ¬ (0 : Int32) = 0) q_142 rfl m_c1 (fun c => absurd c (by decide)) (fun _ => ?_)
    refine e_load q_142 rfl rfl rfl ?_
    refine e_push q_142 rfl ?_
    refine e_virt q_142 rfl rfl (Nat.le_of_ble_eq_true rfl) rfl rfl (Nat.le_of_ble_eq_true rfl) rfl ?_
    show Ev S (d + 1) 118 0 [some (.inr (some 60)), some (.inl (-100001))] [] σ _
    refine e_load q_118 rfl rfl rfl ?_
    refine e_dup q_118 rfl ?_
    refine e_getI q_118 rfl rfl rfl ?_
    refine e_push q_118 rfl ?_
    refine e_bin (r := (σ 60 6) + 1) q_118 rfl rfl ?_
    refine e_putI q_118 rfl rfl rfl ?_
    refine e_load q_118 rfl rfl rfl ?_
    refine e_ireturn q_118 rfl rfl ?_
    show Ev S (d + 2) 142 6 [some (.inr (some 60)), some (.inl x1), some (.inl x2), some (.inl x3)] [.inl (-100001)] (up σ 60 6 ((σ 60 6) + 1)) _
    exact e_ireturn q_142 rfl rfl h
  · replace h := h.2 c
    refine e_load q_119 rfl rfl rfl ?_
    refine e_load q_119 rfl rfl rfl ?_
    refine e_icmp (P := 3 < x1) q_119 rfl m_c4 (fun c => ?_) (fun c => ?_)
    · replace h := h.1 c
      refine e_push q_119 rfl ?_
      refine e_zreturn q_119 rfl rfl (by decide) ?_
      show Ev S (d + 1) 140 4 [some (.inl x1)] [.inl 0] σ _
      refine e_zreturn q_140 rfl rfl (by decide) ?_
      show Ev S (d + 2) 142 2 [some (.inr (some 60)), some (.inl x1), some (.inl x2), some (.inl x3)] [.inl 0] σ _
      refine e_if (P := ¬ (0 : Int32) = 0) q_142 rfl m_c1 (fun c => absurd c (by decide)) (fun _ => ?_)
      refine e_load q_142 rfl rfl rfl ?_
      refine e_push q_142 rfl ?_
      refine e_virt q_142 rfl rfl (Nat.le_of_ble_eq_true rfl) rfl rfl (Nat.le_of_ble_eq_true rfl) rfl ?_
      show Ev S (d + 1) 118 0 [some (.inr (some 60)), some (.inl (-100001))] [] σ _
      refine e_load q_118 rfl rfl rfl ?_
      refine e_dup q_118 rfl ?_
      refine e_getI q_118 rfl rfl rfl ?_
      refine e_push q_118 rfl ?_
      refine e_bin (r := (σ 60 6) + 1) q_118 rfl rfl ?_
      refine e_putI q_118 rfl rfl rfl ?_
      refine e_load q_118 rfl rfl rfl ?_
      refine e_ireturn q_118 rfl rfl ?_
      show Ev S (d + 2) 142 6 [some (.inr (some 60)), some (.inl x1), some (.inl x2), some (.inl x3)] [.inl (-100001)] (up σ 60 6 ((σ 60 6) + 1)) _
      exact e_ireturn q_142 rfl rfl h
    · replace h := h.2 c
      refine e_push q_119 rfl ?_
      refine e_goto q_119 rfl ?_
      refine e_zreturn q_119 rfl rfl (by decide) ?_
      show Ev S (d + 1) 140 4 [some (.inl x1)] [.inl 1] σ _
      refine e_zreturn q_140 rfl rfl (by decide) ?_
      show Ev S (d + 2) 142 2 [some (.inr (some 60)), some (.inl x1), some (.inl x2), some (.inl x3)] [.inl 1] σ _
      refine e_if (P := ¬ (1 : Int32) = 0) q_142 rfl m_c1 (fun _ => ?_) (fun c => absurd (by decide) c)
      refine e_load q_142 rfl rfl rfl ?_
      refine e_getR q_142 rfl rfl rfl ?_
      refine e_load q_142 rfl rfl rfl ?_
      obtain ⟨j1, hjj1, hlj1, h⟩ := h
      refine e_iald q_142 rfl rfl (by decide) hjj1 hlj1 ?_
      refine e_if (P := ¬ (σ 63 j1) = 0) q_142 rfl m_c1 (fun c => ?_) (fun c => ?_)
      · replace h := h.1 c
        refine e_load q_142 rfl rfl rfl ?_
        refine e_if (P := x2 < 0) q_142 rfl m_c2 (fun c => ?_) (fun c => ?_)
        · replace h := h.1 c
          refine e_load q_142 rfl rfl rfl ?_
          refine e_push q_142 rfl ?_
          refine e_virt q_142 rfl rfl (Nat.le_of_ble_eq_true rfl) rfl rfl (Nat.le_of_ble_eq_true rfl) rfl ?_
          show Ev S (d + 1) 118 0 [some (.inr (some 60)), some (.inl (-100001))] [] σ _
          refine e_load q_118 rfl rfl rfl ?_
          refine e_dup q_118 rfl ?_
          refine e_getI q_118 rfl rfl rfl ?_
          refine e_push q_118 rfl ?_
          refine e_bin (r := (σ 60 6) + 1) q_118 rfl rfl ?_
          refine e_putI q_118 rfl rfl rfl ?_
          refine e_load q_118 rfl rfl rfl ?_
          refine e_ireturn q_118 rfl rfl ?_
          show Ev S (d + 2) 142 27 [some (.inr (some 60)), some (.inl x1), some (.inl x2), some (.inl x3)] [.inl (-100001)] (up σ 60 6 ((σ 60 6) + 1)) _
          exact e_ireturn q_142 rfl rfl h
        · replace h := h.2 c
          refine e_load q_142 rfl rfl rfl ?_
          refine e_load q_142 rfl rfl rfl ?_
          refine e_getR q_142 rfl rfl rfl ?_
          refine e_load q_142 rfl rfl rfl ?_
          obtain ⟨j2, hjj2, hlj2, h⟩ := h
          refine e_iald q_142 rfl rfl (by decide) hjj2 hlj2 ?_
          refine e_icmp (P := x2 < (σ 64 j2)) q_142 rfl m_c2 (fun c => ?_) (fun c => ?_)
          · replace h := h.1 c
            refine e_load q_142 rfl rfl rfl ?_
            refine e_getR q_142 rfl rfl rfl ?_
            refine e_push q_142 rfl ?_
            refine e_load q_142 rfl rfl rfl ?_
            refine e_bin (r := 6 * x1) q_142 rfl rfl ?_
            refine e_load q_142 rfl rfl rfl ?_
            refine e_bin (r := (6 * x1) + x2) q_142 rfl rfl ?_
            refine e_load q_142 rfl rfl rfl ?_
            refine e_getR q_142 rfl rfl rfl ?_
            refine e_load q_142 rfl rfl rfl ?_
            obtain ⟨j3, hjj3, hlj3, h⟩ := h
            refine e_iald q_142 rfl rfl (by decide) hjj3 hlj3 ?_
            refine e_push q_142 rfl ?_
            refine e_icmp (P := ¬ (σ 63 j3) = 8) q_142 rfl m_c1 (fun c => ?_) (fun c => ?_)
            · replace h := h.1 c
              refine e_load q_142 rfl rfl rfl ?_
              refine e_getR q_142 rfl rfl rfl ?_
              refine e_load q_142 rfl rfl rfl ?_
              obtain ⟨j4, hjj4, hlj4, h⟩ := h
              refine e_iald q_142 rfl rfl (by decide) hjj4 hlj4 ?_
              refine e_push q_142 rfl ?_
              refine e_icmp (P := ¬ (σ 63 j4) = 16) q_142 rfl m_c1 (fun c => ?_) (fun c => ?_)
              · replace h := h.1 c
                refine e_load q_142 rfl rfl rfl ?_
                obtain ⟨j5, hjj5, hlj5, h⟩ := h
                refine e_iast q_142 rfl rfl (by decide) hjj5 hlj5 ?_
                refine e_push q_142 rfl ?_
                exact e_ireturn q_142 rfl rfl h
              · replace h := h.2 c
                refine e_load q_142 rfl rfl rfl ?_
                refine e_un (r := x3.toInt16.toInt32) q_142 rfl rfl ?_
                refine e_goto q_142 rfl ?_
                obtain ⟨j6, hjj6, hlj6, h⟩ := h
                refine e_iast q_142 rfl rfl (by decide) hjj6 hlj6 ?_
                refine e_push q_142 rfl ?_
                exact e_ireturn q_142 rfl rfl h
            · replace h := h.2 c
              refine e_load q_142 rfl rfl rfl ?_
              refine e_un (r := x3.toInt8.toInt32) q_142 rfl rfl ?_
              refine e_goto q_142 rfl ?_
              obtain ⟨j7, hjj7, hlj7, h⟩ := h
              refine e_iast q_142 rfl rfl (by decide) hjj7 hlj7 ?_
              refine e_push q_142 rfl ?_
              exact e_ireturn q_142 rfl rfl h
          · replace h := h.2 c
            refine e_load q_142 rfl rfl rfl ?_
            refine e_push q_142 rfl ?_
            refine e_virt q_142 rfl rfl (Nat.le_of_ble_eq_true rfl) rfl rfl (Nat.le_of_ble_eq_true rfl) rfl ?_
            show Ev S (d + 1) 118 0 [some (.inr (some 60)), some (.inl (-100001))] [] σ _
            refine e_load q_118 rfl rfl rfl ?_
            refine e_dup q_118 rfl ?_
            refine e_getI q_118 rfl rfl rfl ?_
            refine e_push q_118 rfl ?_
            refine e_bin (r := (σ 60 6) + 1) q_118 rfl rfl ?_
            refine e_putI q_118 rfl rfl rfl ?_
            refine e_load q_118 rfl rfl rfl ?_
            refine e_ireturn q_118 rfl rfl ?_
            show Ev S (d + 2) 142 27 [some (.inr (some 60)), some (.inl x1), some (.inl x2), some (.inl x3)] [.inl (-100001)] (up σ 60 6 ((σ 60 6) + 1)) _
            exact e_ireturn q_142 rfl rfl h
      · replace h := h.2 c
        refine e_load q_142 rfl rfl rfl ?_
        refine e_push q_142 rfl ?_
        refine e_virt q_142 rfl rfl (Nat.le_of_ble_eq_true rfl) rfl rfl (Nat.le_of_ble_eq_true rfl) rfl ?_
        show Ev S (d + 1) 118 0 [some (.inr (some 60)), some (.inl (-100002))] [] σ _
        refine e_load q_118 rfl rfl rfl ?_
        refine e_dup q_118 rfl ?_
        refine e_getI q_118 rfl rfl rfl ?_
        refine e_push q_118 rfl ?_
        refine e_bin (r := (σ 60 6) + 1) q_118 rfl rfl ?_
        refine e_putI q_118 rfl rfl rfl ?_
        refine e_load q_118 rfl rfl rfl ?_
        refine e_ireturn q_118 rfl rfl ?_
        show Ev S (d + 2) 142 15 [some (.inr (some 60)), some (.inl x1), some (.inl x2), some (.inl x3)] [.inl (-100002)] (up σ 60 6 ((σ 60 6) + 1)) _
        exact e_ireturn q_142 rfl rfl h
theorem g_144_0 {S : Nat × (Nat → Int32)} {d : Nat} {σ : Mem} {Q : MQ1} {x1 : Int32} {x2 : Int32} {x3 : Int32} {x4 : Int32} {x5 : Int32}  (h : ((x1 < 0 → Q [.inl (-100001)] (up σ 60 6 ((σ 60 6) + 1))) ∧ (¬ (x1 < 0) → ((3 < x1 → Q [.inl (-100001)] (up σ 60 6 ((σ 60 6) + 1))) ∧ (¬ (3 < x1) → ((x3 < 0 → Q [.inl (-100001)] (up σ 60 6 ((σ 60 6) + 1))) ∧ (¬ (x3 < 0) → ((3 < x3 → Q [.inl (-100001)] (up σ 60 6 ((σ 60 6) + 1))) ∧ (¬ (3 < x3) → (∃ j1 : Nat, x1 = nI j1 ∧ j1 < 4 ∧ (((σ 63 j1) = 0 → Q [.inl (-100002)] (up σ 60 6 ((σ 60 6) + 1))) ∧ (¬ ((σ 63 j1) = 0) → (∃ j2 : Nat, x3 = nI j2 ∧ j2 < 4 ∧ (((¬ (σ 63 j2) = 0) → (∃ j3 : Nat, x1 = nI j3 ∧ j3 < 4 ∧ (∃ j4 : Nat, x3 = nI j4 ∧ j4 < 4 ∧ (((σ 63 j3) = (σ 63 j4) → ((x2 < 0 → Q [.inl (-100001)] (up σ 60 6 ((σ 60 6) + 1))) ∧ (¬ (x2 < 0) → ((x5 < 0 → Q [.inl (-100001)] (up σ 60 6 ((σ 60 6) + 1))) ∧ (¬ (x5 < 0) → (∃ j5 : Nat, x1 = nI j5 ∧ j5 < 4 ∧ (((σ 64 j5) < x5 → Q [.inl (-100001)] (up σ 60 6 ((σ 60 6) + 1))) ∧ (¬ ((σ 64 j5) < x5) → (∃ j6 : Nat, x1 = nI j6 ∧ j6 < 4 ∧ ((((σ 64 j6) - x5) < x2 → Q [.inl (-100001)] (up σ 60 6 ((σ 60 6) + 1))) ∧ (¬ (((σ 64 j6) - x5) < x2) → ((x4 < 0 → Q [.inl (-100001)] (up σ 60 6 ((σ 60 6) + 1))) ∧ (¬ (x4 < 0) → ((x5 < 0 → Q [.inl (-100001)] (up σ 60 6 ((σ 60 6) + 1))) ∧ (¬ (x5 < 0) → (∃ j7 : Nat, x3 = nI j7 ∧ j7 < 4 ∧ (((σ 64 j7) < x5 → Q [.inl (-100001)] (up σ 60 6 ((σ 60 6) + 1))) ∧ (¬ ((σ 64 j7) < x5) → (∃ j8 : Nat, x3 = nI j8 ∧ j8 < 4 ∧ ((((σ 64 j8) - x5) < x4 → Q [.inl (-100001)] (up σ 60 6 ((σ 60 6) + 1))) ∧ (¬ (((σ 64 j8) - x5) < x4) → Ev S (d + 2) 144 55 [some (.inr (some 60)), some (.inl x1), some (.inl x2), some (.inl x3), some (.inl x4), some (.inl x5), some (.inl 0)] [] σ Q))))))))))))))))))))) ∧ (¬ ((σ 63 j3) = (σ 63 j4)) → Q [.inl (-100004)] (up σ 60 6 ((σ 60 6) + 1))))))) ∧ (¬ (¬ (σ 63 j2) = 0) → Q [.inl (-100002)] (up σ 60 6 ((σ 60 6) + 1))))))))))))))))) : Ev S (d + 2) 144 0 [some (.inr (some 60)), some (.inl x1), some (.inl x2), some (.inl x3), some (.inl x4), some (.inl x5), none] [] σ Q := by
  refine e_load q_144 rfl rfl rfl ?_
  refine e_stat q_144 rfl (Nat.le_of_ble_eq_true rfl) rfl rfl (Nat.le_of_ble_eq_true rfl) ?_
  show Ev S (d + 1) 140 0 [some (.inl x1)] [] σ _
  refine e_load q_140 rfl rfl rfl ?_
  refine e_push q_140 rfl ?_
  refine e_push q_140 rfl ?_
  refine e_stat q_140 rfl (Nat.le_of_ble_eq_true rfl) rfl rfl (Nat.le_of_ble_eq_true rfl) ?_
  show Ev S d 119 0 [some (.inl x1), some (.inl 0), some (.inl 3)] [] σ _
  refine e_load q_119 rfl rfl rfl ?_
  refine e_load q_119 rfl rfl rfl ?_
  refine e_icmp (P := x1 < 0) q_119 rfl m_c2 (fun c => ?_) (fun c => ?_)
  · replace h := h.1 c
    refine e_push q_119 rfl ?_
    refine e_zreturn q_119 rfl rfl (by decide) ?_
    show Ev S (d + 1) 140 4 [some (.inl x1)] [.inl 0] σ _
    refine e_zreturn q_140 rfl rfl (by decide) ?_
    show Ev S (d + 2) 144 2 [some (.inr (some 60)), some (.inl x1), some (.inl x2), some (.inl x3), some (.inl x4), some (.inl x5), none] [.inl 0] σ _
    refine e_if (P := (0 : Int32) = 0) q_144 rfl m_c0 (fun _ => ?_) (fun c => absurd (by decide) c)
    refine e_load q_144 rfl rfl rfl ?_
    refine e_push q_144 rfl ?_
    refine e_virt q_144 rfl rfl (Nat.le_of_ble_eq_true rfl) rfl rfl (Nat.le_of_ble_eq_true rfl) rfl ?_
    show Ev S (d + 1) 118 0 [some (.inr (some 60)), some (.inl (-100001))] [] σ _
    refine e_load q_118 rfl rfl rfl ?_
    refine e_dup q_118 rfl ?_
    refine e_getI q_118 rfl rfl rfl ?_
    refine e_push q_118 rfl ?_
    refine e_bin (r := (σ 60 6) + 1) q_118 rfl rfl ?_
    refine e_putI q_118 rfl rfl rfl ?_
    refine e_load q_118 rfl rfl rfl ?_
    refine e_ireturn q_118 rfl rfl ?_
    show Ev S (d + 2) 144 9 [some (.inr (some 60)), some (.inl x1), some (.inl x2), some (.inl x3), some (.inl x4), some (.inl x5), none] [.inl (-100001)] (up σ 60 6 ((σ 60 6) + 1)) _
    exact e_ireturn q_144 rfl rfl h
  · replace h := h.2 c
    refine e_load q_119 rfl rfl rfl ?_
    refine e_load q_119 rfl rfl rfl ?_
    refine e_icmp (P := 3 < x1) q_119 rfl m_c4 (fun c => ?_) (fun c => ?_)
    · replace h := h.1 c
      refine e_push q_119 rfl ?_
      refine e_zreturn q_119 rfl rfl (by decide) ?_
      show Ev S (d + 1) 140 4 [some (.inl x1)] [.inl 0] σ _
      refine e_zreturn q_140 rfl rfl (by decide) ?_
      show Ev S (d + 2) 144 2 [some (.inr (some 60)), some (.inl x1), some (.inl x2), some (.inl x3), some (.inl x4), some (.inl x5), none] [.inl 0] σ _
      refine e_if (P := (0 : Int32) = 0) q_144 rfl m_c0 (fun _ => ?_) (fun c => absurd (by decide) c)
      refine e_load q_144 rfl rfl rfl ?_
      refine e_push q_144 rfl ?_
      refine e_virt q_144 rfl rfl (Nat.le_of_ble_eq_true rfl) rfl rfl (Nat.le_of_ble_eq_true rfl) rfl ?_
      show Ev S (d + 1) 118 0 [some (.inr (some 60)), some (.inl (-100001))] [] σ _
      refine e_load q_118 rfl rfl rfl ?_
      refine e_dup q_118 rfl ?_
      refine e_getI q_118 rfl rfl rfl ?_
      refine e_push q_118 rfl ?_
      refine e_bin (r := (σ 60 6) + 1) q_118 rfl rfl ?_
      refine e_putI q_118 rfl rfl rfl ?_
      refine e_load q_118 rfl rfl rfl ?_
      refine e_ireturn q_118 rfl rfl ?_
      show Ev S (d + 2) 144 9 [some (.inr (some 60)), some (.inl x1), some (.inl x2), some (.inl x3), some (.inl x4), some (.inl x5), none] [.inl (-100001)] (up σ 60 6 ((σ 60 6) + 1)) _
      exact e_ireturn q_144 rfl rfl h
    · replace h := h.2 c
      refine e_push q_119 rfl ?_
      refine e_goto q_119 rfl ?_
      refine e_zreturn q_119 rfl rfl (by decide) ?_
      show Ev S (d + 1) 140 4 [some (.inl x1)] [.inl 1] σ _
      refine e_zreturn q_140 rfl rfl (by decide) ?_
      show Ev S (d + 2) 144 2 [some (.inr (some 60)), some (.inl x1), some (.inl x2), some (.inl x3), some (.inl x4), some (.inl x5), none] [.inl 1] σ _
      refine e_if (P := (1 : Int32) = 0) q_144 rfl m_c0 (fun c => absurd c (by decide)) (fun _ => ?_)
      refine e_load q_144 rfl rfl rfl ?_
      refine e_stat q_144 rfl (Nat.le_of_ble_eq_true rfl) rfl rfl (Nat.le_of_ble_eq_true rfl) ?_
      show Ev S (d + 1) 140 0 [some (.inl x3)] [] σ _
      refine e_load q_140 rfl rfl rfl ?_
      refine e_push q_140 rfl ?_
      refine e_push q_140 rfl ?_
      refine e_stat q_140 rfl (Nat.le_of_ble_eq_true rfl) rfl rfl (Nat.le_of_ble_eq_true rfl) ?_
      show Ev S d 119 0 [some (.inl x3), some (.inl 0), some (.inl 3)] [] σ _
      refine e_load q_119 rfl rfl rfl ?_
      refine e_load q_119 rfl rfl rfl ?_
      refine e_icmp (P := x3 < 0) q_119 rfl m_c2 (fun c => ?_) (fun c => ?_)
      · replace h := h.1 c
        refine e_push q_119 rfl ?_
        refine e_zreturn q_119 rfl rfl (by decide) ?_
        show Ev S (d + 1) 140 4 [some (.inl x3)] [.inl 0] σ _
        refine e_zreturn q_140 rfl rfl (by decide) ?_
        show Ev S (d + 2) 144 5 [some (.inr (some 60)), some (.inl x1), some (.inl x2), some (.inl x3), some (.inl x4), some (.inl x5), none] [.inl 0] σ _
        refine e_if (P := ¬ (0 : Int32) = 0) q_144 rfl m_c1 (fun c => absurd c (by decide)) (fun _ => ?_)
        refine e_load q_144 rfl rfl rfl ?_
        refine e_push q_144 rfl ?_
        refine e_virt q_144 rfl rfl (Nat.le_of_ble_eq_true rfl) rfl rfl (Nat.le_of_ble_eq_true rfl) rfl ?_
        show Ev S (d + 1) 118 0 [some (.inr (some 60)), some (.inl (-100001))] [] σ _
        refine e_load q_118 rfl rfl rfl ?_
        refine e_dup q_118 rfl ?_
        refine e_getI q_118 rfl rfl rfl ?_
        refine e_push q_118 rfl ?_
        refine e_bin (r := (σ 60 6) + 1) q_118 rfl rfl ?_
        refine e_putI q_118 rfl rfl rfl ?_
        refine e_load q_118 rfl rfl rfl ?_
        refine e_ireturn q_118 rfl rfl ?_
        show Ev S (d + 2) 144 9 [some (.inr (some 60)), some (.inl x1), some (.inl x2), some (.inl x3), some (.inl x4), some (.inl x5), none] [.inl (-100001)] (up σ 60 6 ((σ 60 6) + 1)) _
        exact e_ireturn q_144 rfl rfl h
      · replace h := h.2 c
        refine e_load q_119 rfl rfl rfl ?_
        refine e_load q_119 rfl rfl rfl ?_
        refine e_icmp (P := 3 < x3) q_119 rfl m_c4 (fun c => ?_) (fun c => ?_)
        · replace h := h.1 c
          refine e_push q_119 rfl ?_
          refine e_zreturn q_119 rfl rfl (by decide) ?_
          show Ev S (d + 1) 140 4 [some (.inl x3)] [.inl 0] σ _
          refine e_zreturn q_140 rfl rfl (by decide) ?_
          show Ev S (d + 2) 144 5 [some (.inr (some 60)), some (.inl x1), some (.inl x2), some (.inl x3), some (.inl x4), some (.inl x5), none] [.inl 0] σ _
          refine e_if (P := ¬ (0 : Int32) = 0) q_144 rfl m_c1 (fun c => absurd c (by decide)) (fun _ => ?_)
          refine e_load q_144 rfl rfl rfl ?_
          refine e_push q_144 rfl ?_
          refine e_virt q_144 rfl rfl (Nat.le_of_ble_eq_true rfl) rfl rfl (Nat.le_of_ble_eq_true rfl) rfl ?_
          show Ev S (d + 1) 118 0 [some (.inr (some 60)), some (.inl (-100001))] [] σ _
          refine e_load q_118 rfl rfl rfl ?_
          refine e_dup q_118 rfl ?_
          refine e_getI q_118 rfl rfl rfl ?_
          refine e_push q_118 rfl ?_
          refine e_bin (r := (σ 60 6) + 1) q_118 rfl rfl ?_
          refine e_putI q_118 rfl rfl rfl ?_
          refine e_load q_118 rfl rfl rfl ?_
          refine e_ireturn q_118 rfl rfl ?_
          show Ev S (d + 2) 144 9 [some (.inr (some 60)), some (.inl x1), some (.inl x2), some (.inl x3), some (.inl x4), some (.inl x5), none] [.inl (-100001)] (up σ 60 6 ((σ 60 6) + 1)) _
          exact e_ireturn q_144 rfl rfl h
        · replace h := h.2 c
          refine e_push q_119 rfl ?_
          refine e_goto q_119 rfl ?_
          refine e_zreturn q_119 rfl rfl (by decide) ?_
          show Ev S (d + 1) 140 4 [some (.inl x3)] [.inl 1] σ _
          refine e_zreturn q_140 rfl rfl (by decide) ?_
          show Ev S (d + 2) 144 5 [some (.inr (some 60)), some (.inl x1), some (.inl x2), some (.inl x3), some (.inl x4), some (.inl x5), none] [.inl 1] σ _
          refine e_if (P := ¬ (1 : Int32) = 0) q_144 rfl m_c1 (fun _ => ?_) (fun c => absurd (by decide) c)
          refine e_load q_144 rfl rfl rfl ?_
          refine e_getR q_144 rfl rfl rfl ?_
          refine e_load q_144 rfl rfl rfl ?_
          obtain ⟨j1, hjj1, hlj1, h⟩ := h
          refine e_iald q_144 rfl rfl (by decide) hjj1 hlj1 ?_
          refine e_if (P := (σ 63 j1) = 0) q_144 rfl m_c0 (fun c => ?_) (fun c => ?_)
          · replace h := h.1 c
            refine e_load q_144 rfl rfl rfl ?_
            refine e_push q_144 rfl ?_
            refine e_virt q_144 rfl rfl (Nat.le_of_ble_eq_true rfl) rfl rfl (Nat.le_of_ble_eq_true rfl) rfl ?_
            show Ev S (d + 1) 118 0 [some (.inr (some 60)), some (.inl (-100002))] [] σ _
            refine e_load q_118 rfl rfl rfl ?_
            refine e_dup q_118 rfl ?_
            refine e_getI q_118 rfl rfl rfl ?_
            refine e_push q_118 rfl ?_
            refine e_bin (r := (σ 60 6) + 1) q_118 rfl rfl ?_
            refine e_putI q_118 rfl rfl rfl ?_
            refine e_load q_118 rfl rfl rfl ?_
            refine e_ireturn q_118 rfl rfl ?_
            show Ev S (d + 2) 144 23 [some (.inr (some 60)), some (.inl x1), some (.inl x2), some (.inl x3), some (.inl x4), some (.inl x5), none] [.inl (-100002)] (up σ 60 6 ((σ 60 6) + 1)) _
            exact e_ireturn q_144 rfl rfl h
          · replace h := h.2 c
            refine e_load q_144 rfl rfl rfl ?_
            refine e_getR q_144 rfl rfl rfl ?_
            refine e_load q_144 rfl rfl rfl ?_
            obtain ⟨j2, hjj2, hlj2, h⟩ := h
            refine e_iald q_144 rfl rfl (by decide) hjj2 hlj2 ?_
            refine e_if (P := ¬ (σ 63 j2) = 0) q_144 rfl m_c1 (fun c => ?_) (fun c => ?_)
            · replace h := h.1 c
              refine e_load q_144 rfl rfl rfl ?_
              refine e_getR q_144 rfl rfl rfl ?_
              refine e_load q_144 rfl rfl rfl ?_
              obtain ⟨j3, hjj3, hlj3, h⟩ := h
              refine e_iald q_144 rfl rfl (by decide) hjj3 hlj3 ?_
              refine e_load q_144 rfl rfl rfl ?_
              refine e_getR q_144 rfl rfl rfl ?_
              refine e_load q_144 rfl rfl rfl ?_
              obtain ⟨j4, hjj4, hlj4, h⟩ := h
              refine e_iald q_144 rfl rfl (by decide) hjj4 hlj4 ?_
              refine e_icmp (P := (σ 63 j3) = (σ 63 j4)) q_144 rfl m_c0 (fun c => ?_) (fun c => ?_)
              · replace h := h.1 c
                refine e_load q_144 rfl rfl rfl ?_
                refine e_load q_144 rfl rfl rfl ?_
                refine e_load q_144 rfl rfl rfl ?_
                refine e_load q_144 rfl rfl rfl ?_
                refine e_virt q_144 rfl rfl (Nat.le_of_ble_eq_true rfl) rfl rfl (Nat.le_of_ble_eq_true rfl) rfl ?_
                show Ev S (d + 1) 143 0 [some (.inr (some 60)), some (.inl x1), some (.inl x2), some (.inl x5)] [] σ _
                refine e_load q_143 rfl rfl rfl ?_
                refine e_if (P := x2 < 0) q_143 rfl m_c2 (fun c => ?_) (fun c => ?_)
                · replace h := h.1 c
                  refine e_push q_143 rfl ?_
                  refine e_zreturn q_143 rfl rfl (by decide) ?_
                  show Ev S (d + 2) 144 42 [some (.inr (some 60)), some (.inl x1), some (.inl x2), some (.inl x3), some (.inl x4), some (.inl x5), none] [.inl 0] σ _
                  refine e_if (P := (0 : Int32) = 0) q_144 rfl m_c0 (fun _ => ?_) (fun c => absurd (by decide) c)
                  refine e_load q_144 rfl rfl rfl ?_
                  refine e_push q_144 rfl ?_
                  refine e_virt q_144 rfl rfl (Nat.le_of_ble_eq_true rfl) rfl rfl (Nat.le_of_ble_eq_true rfl) rfl ?_
                  show Ev S (d + 1) 118 0 [some (.inr (some 60)), some (.inl (-100001))] [] σ _
                  refine e_load q_118 rfl rfl rfl ?_
                  refine e_dup q_118 rfl ?_
                  refine e_getI q_118 rfl rfl rfl ?_
                  refine e_push q_118 rfl ?_
                  refine e_bin (r := (σ 60 6) + 1) q_118 rfl rfl ?_
                  refine e_putI q_118 rfl rfl rfl ?_
                  refine e_load q_118 rfl rfl rfl ?_
                  refine e_ireturn q_118 rfl rfl ?_
                  show Ev S (d + 2) 144 52 [some (.inr (some 60)), some (.inl x1), some (.inl x2), some (.inl x3), some (.inl x4), some (.inl x5), none] [.inl (-100001)] (up σ 60 6 ((σ 60 6) + 1)) _
                  exact e_ireturn q_144 rfl rfl h
                · replace h := h.2 c
                  refine e_load q_143 rfl rfl rfl ?_
                  refine e_if (P := x5 < 0) q_143 rfl m_c2 (fun c => ?_) (fun c => ?_)
                  · replace h := h.1 c
                    refine e_push q_143 rfl ?_
                    refine e_zreturn q_143 rfl rfl (by decide) ?_
                    show Ev S (d + 2) 144 42 [some (.inr (some 60)), some (.inl x1), some (.inl x2), some (.inl x3), some (.inl x4), some (.inl x5), none] [.inl 0] σ _
                    refine e_if (P := (0 : Int32) = 0) q_144 rfl m_c0 (fun _ => ?_) (fun c => absurd (by decide) c)
                    refine e_load q_144 rfl rfl rfl ?_
                    refine e_push q_144 rfl ?_
                    refine e_virt q_144 rfl rfl (Nat.le_of_ble_eq_true rfl) rfl rfl (Nat.le_of_ble_eq_true rfl) rfl ?_
                    show Ev S (d + 1) 118 0 [some (.inr (some 60)), some (.inl (-100001))] [] σ _
                    refine e_load q_118 rfl rfl rfl ?_
                    refine e_dup q_118 rfl ?_
                    refine e_getI q_118 rfl rfl rfl ?_
                    refine e_push q_118 rfl ?_
                    refine e_bin (r := (σ 60 6) + 1) q_118 rfl rfl ?_
                    refine e_putI q_118 rfl rfl rfl ?_
                    refine e_load q_118 rfl rfl rfl ?_
                    refine e_ireturn q_118 rfl rfl ?_
                    show Ev S (d + 2) 144 52 [some (.inr (some 60)), some (.inl x1), some (.inl x2), some (.inl x3), some (.inl x4), some (.inl x5), none] [.inl (-100001)] (up σ 60 6 ((σ 60 6) + 1)) _
                    exact e_ireturn q_144 rfl rfl h
                  · replace h := h.2 c
                    refine e_load q_143 rfl rfl rfl ?_
                    refine e_load q_143 rfl rfl rfl ?_
                    refine e_getR q_143 rfl rfl rfl ?_
                    refine e_load q_143 rfl rfl rfl ?_
                    obtain ⟨j5, hjj5, hlj5, h⟩ := h
                    refine e_iald q_143 rfl rfl (by decide) hjj5 hlj5 ?_
                    refine e_icmp (P := (σ 64 j5) < x5) q_143 rfl m_c4 (fun c => ?_) (fun c => ?_)
                    · replace h := h.1 c
                      refine e_push q_143 rfl ?_
                      refine e_zreturn q_143 rfl rfl (by decide) ?_
                      show Ev S (d + 2) 144 42 [some (.inr (some 60)), some (.inl x1), some (.inl x2), some (.inl x3), some (.inl x4), some (.inl x5), none] [.inl 0] σ _
                      refine e_if (P := (0 : Int32) = 0) q_144 rfl m_c0 (fun _ => ?_) (fun c => absurd (by decide) c)
                      refine e_load q_144 rfl rfl rfl ?_
                      refine e_push q_144 rfl ?_
                      refine e_virt q_144 rfl rfl (Nat.le_of_ble_eq_true rfl) rfl rfl (Nat.le_of_ble_eq_true rfl) rfl ?_
                      show Ev S (d + 1) 118 0 [some (.inr (some 60)), some (.inl (-100001))] [] σ _
                      refine e_load q_118 rfl rfl rfl ?_
                      refine e_dup q_118 rfl ?_
                      refine e_getI q_118 rfl rfl rfl ?_
                      refine e_push q_118 rfl ?_
                      refine e_bin (r := (σ 60 6) + 1) q_118 rfl rfl ?_
                      refine e_putI q_118 rfl rfl rfl ?_
                      refine e_load q_118 rfl rfl rfl ?_
                      refine e_ireturn q_118 rfl rfl ?_
                      show Ev S (d + 2) 144 52 [some (.inr (some 60)), some (.inl x1), some (.inl x2), some (.inl x3), some (.inl x4), some (.inl x5), none] [.inl (-100001)] (up σ 60 6 ((σ 60 6) + 1)) _
                      exact e_ireturn q_144 rfl rfl h
                    · replace h := h.2 c
                      refine e_load q_143 rfl rfl rfl ?_
                      refine e_load q_143 rfl rfl rfl ?_
                      refine e_getR q_143 rfl rfl rfl ?_
                      refine e_load q_143 rfl rfl rfl ?_
                      obtain ⟨j6, hjj6, hlj6, h⟩ := h
                      refine e_iald q_143 rfl rfl (by decide) hjj6 hlj6 ?_
                      refine e_load q_143 rfl rfl rfl ?_
                      refine e_bin (r := (σ 64 j6) - x5) q_143 rfl rfl ?_
                      refine e_icmp (P := ((σ 64 j6) - x5) < x2) q_143 rfl m_c4 (fun c => ?_) (fun c => ?_)
                      · replace h := h.1 c
                        refine e_push q_143 rfl ?_
                        refine e_zreturn q_143 rfl rfl (by decide) ?_
                        show Ev S (d + 2) 144 42 [some (.inr (some 60)), some (.inl x1), some (.inl x2), some (.inl x3), some (.inl x4), some (.inl x5), none] [.inl 0] σ _
                        refine e_if (P := (0 : Int32) = 0) q_144 rfl m_c0 (fun _ => ?_) (fun c => absurd (by decide) c)
                        refine e_load q_144 rfl rfl rfl ?_
                        refine e_push q_144 rfl ?_
                        refine e_virt q_144 rfl rfl (Nat.le_of_ble_eq_true rfl) rfl rfl (Nat.le_of_ble_eq_true rfl) rfl ?_
                        show Ev S (d + 1) 118 0 [some (.inr (some 60)), some (.inl (-100001))] [] σ _
                        refine e_load q_118 rfl rfl rfl ?_
                        refine e_dup q_118 rfl ?_
                        refine e_getI q_118 rfl rfl rfl ?_
                        refine e_push q_118 rfl ?_
                        refine e_bin (r := (σ 60 6) + 1) q_118 rfl rfl ?_
                        refine e_putI q_118 rfl rfl rfl ?_
                        refine e_load q_118 rfl rfl rfl ?_
                        refine e_ireturn q_118 rfl rfl ?_
                        show Ev S (d + 2) 144 52 [some (.inr (some 60)), some (.inl x1), some (.inl x2), some (.inl x3), some (.inl x4), some (.inl x5), none] [.inl (-100001)] (up σ 60 6 ((σ 60 6) + 1)) _
                        exact e_ireturn q_144 rfl rfl h
                      · replace h := h.2 c
                        refine e_push q_143 rfl ?_
                        refine e_goto q_143 rfl ?_
                        refine e_zreturn q_143 rfl rfl (by decide) ?_
                        show Ev S (d + 2) 144 42 [some (.inr (some 60)), some (.inl x1), some (.inl x2), some (.inl x3), some (.inl x4), some (.inl x5), none] [.inl 1] σ _
                        refine e_if (P := (1 : Int32) = 0) q_144 rfl m_c0 (fun c => absurd c (by decide)) (fun _ => ?_)
                        refine e_load q_144 rfl rfl rfl ?_
                        refine e_load q_144 rfl rfl rfl ?_
                        refine e_load q_144 rfl rfl rfl ?_
                        refine e_load q_144 rfl rfl rfl ?_
                        refine e_virt q_144 rfl rfl (Nat.le_of_ble_eq_true rfl) rfl rfl (Nat.le_of_ble_eq_true rfl) rfl ?_
                        show Ev S (d + 1) 143 0 [some (.inr (some 60)), some (.inl x3), some (.inl x4), some (.inl x5)] [] σ _
                        refine e_load q_143 rfl rfl rfl ?_
                        refine e_if (P := x4 < 0) q_143 rfl m_c2 (fun c => ?_) (fun c => ?_)
                        · replace h := h.1 c
                          refine e_push q_143 rfl ?_
                          refine e_zreturn q_143 rfl rfl (by decide) ?_
                          show Ev S (d + 2) 144 48 [some (.inr (some 60)), some (.inl x1), some (.inl x2), some (.inl x3), some (.inl x4), some (.inl x5), none] [.inl 0] σ _
                          refine e_if (P := ¬ (0 : Int32) = 0) q_144 rfl m_c1 (fun c => absurd c (by decide)) (fun _ => ?_)
                          refine e_load q_144 rfl rfl rfl ?_
                          refine e_push q_144 rfl ?_
                          refine e_virt q_144 rfl rfl (Nat.le_of_ble_eq_true rfl) rfl rfl (Nat.le_of_ble_eq_true rfl) rfl ?_
                          show Ev S (d + 1) 118 0 [some (.inr (some 60)), some (.inl (-100001))] [] σ _
                          refine e_load q_118 rfl rfl rfl ?_
                          refine e_dup q_118 rfl ?_
                          refine e_getI q_118 rfl rfl rfl ?_
                          refine e_push q_118 rfl ?_
                          refine e_bin (r := (σ 60 6) + 1) q_118 rfl rfl ?_
                          refine e_putI q_118 rfl rfl rfl ?_
                          refine e_load q_118 rfl rfl rfl ?_
                          refine e_ireturn q_118 rfl rfl ?_
                          show Ev S (d + 2) 144 52 [some (.inr (some 60)), some (.inl x1), some (.inl x2), some (.inl x3), some (.inl x4), some (.inl x5), none] [.inl (-100001)] (up σ 60 6 ((σ 60 6) + 1)) _
                          exact e_ireturn q_144 rfl rfl h
                        · replace h := h.2 c
                          refine e_load q_143 rfl rfl rfl ?_
                          refine e_if (P := x5 < 0) q_143 rfl m_c2 (fun c => ?_) (fun c => ?_)
                          · replace h := h.1 c
                            refine e_push q_143 rfl ?_
                            refine e_zreturn q_143 rfl rfl (by decide) ?_
                            show Ev S (d + 2) 144 48 [some (.inr (some 60)), some (.inl x1), some (.inl x2), some (.inl x3), some (.inl x4), some (.inl x5), none] [.inl 0] σ _
                            refine e_if (P := ¬ (0 : Int32) = 0) q_144 rfl m_c1 (fun c => absurd c (by decide)) (fun _ => ?_)
                            refine e_load q_144 rfl rfl rfl ?_
                            refine e_push q_144 rfl ?_
                            refine e_virt q_144 rfl rfl (Nat.le_of_ble_eq_true rfl) rfl rfl (Nat.le_of_ble_eq_true rfl) rfl ?_
                            show Ev S (d + 1) 118 0 [some (.inr (some 60)), some (.inl (-100001))] [] σ _
                            refine e_load q_118 rfl rfl rfl ?_
                            refine e_dup q_118 rfl ?_
                            refine e_getI q_118 rfl rfl rfl ?_
                            refine e_push q_118 rfl ?_
                            refine e_bin (r := (σ 60 6) + 1) q_118 rfl rfl ?_
                            refine e_putI q_118 rfl rfl rfl ?_
                            refine e_load q_118 rfl rfl rfl ?_
                            refine e_ireturn q_118 rfl rfl ?_
                            show Ev S (d + 2) 144 52 [some (.inr (some 60)), some (.inl x1), some (.inl x2), some (.inl x3), some (.inl x4), some (.inl x5), none] [.inl (-100001)] (up σ 60 6 ((σ 60 6) + 1)) _
                            exact e_ireturn q_144 rfl rfl h
                          · replace h := h.2 c
                            refine e_load q_143 rfl rfl rfl ?_
                            refine e_load q_143 rfl rfl rfl ?_
                            refine e_getR q_143 rfl rfl rfl ?_
                            refine e_load q_143 rfl rfl rfl ?_
                            obtain ⟨j7, hjj7, hlj7, h⟩ := h
                            refine e_iald q_143 rfl rfl (by decide) hjj7 hlj7 ?_
                            refine e_icmp (P := (σ 64 j7) < x5) q_143 rfl m_c4 (fun c => ?_) (fun c => ?_)
                            · replace h := h.1 c
                              refine e_push q_143 rfl ?_
                              refine e_zreturn q_143 rfl rfl (by decide) ?_
                              show Ev S (d + 2) 144 48 [some (.inr (some 60)), some (.inl x1), some (.inl x2), some (.inl x3), some (.inl x4), some (.inl x5), none] [.inl 0] σ _
                              refine e_if (P := ¬ (0 : Int32) = 0) q_144 rfl m_c1 (fun c => absurd c (by decide)) (fun _ => ?_)
                              refine e_load q_144 rfl rfl rfl ?_
                              refine e_push q_144 rfl ?_
                              refine e_virt q_144 rfl rfl (Nat.le_of_ble_eq_true rfl) rfl rfl (Nat.le_of_ble_eq_true rfl) rfl ?_
                              show Ev S (d + 1) 118 0 [some (.inr (some 60)), some (.inl (-100001))] [] σ _
                              refine e_load q_118 rfl rfl rfl ?_
                              refine e_dup q_118 rfl ?_
                              refine e_getI q_118 rfl rfl rfl ?_
                              refine e_push q_118 rfl ?_
                              refine e_bin (r := (σ 60 6) + 1) q_118 rfl rfl ?_
                              refine e_putI q_118 rfl rfl rfl ?_
                              refine e_load q_118 rfl rfl rfl ?_
                              refine e_ireturn q_118 rfl rfl ?_
                              show Ev S (d + 2) 144 52 [some (.inr (some 60)), some (.inl x1), some (.inl x2), some (.inl x3), some (.inl x4), some (.inl x5), none] [.inl (-100001)] (up σ 60 6 ((σ 60 6) + 1)) _
                              exact e_ireturn q_144 rfl rfl h
                            · replace h := h.2 c
                              refine e_load q_143 rfl rfl rfl ?_
                              refine e_load q_143 rfl rfl rfl ?_
                              refine e_getR q_143 rfl rfl rfl ?_
                              refine e_load q_143 rfl rfl rfl ?_
                              obtain ⟨j8, hjj8, hlj8, h⟩ := h
                              refine e_iald q_143 rfl rfl (by decide) hjj8 hlj8 ?_
                              refine e_load q_143 rfl rfl rfl ?_
                              refine e_bin (r := (σ 64 j8) - x5) q_143 rfl rfl ?_
                              refine e_icmp (P := ((σ 64 j8) - x5) < x4) q_143 rfl m_c4 (fun c => ?_) (fun c => ?_)
                              · replace h := h.1 c
                                refine e_push q_143 rfl ?_
                                refine e_zreturn q_143 rfl rfl (by decide) ?_
                                show Ev S (d + 2) 144 48 [some (.inr (some 60)), some (.inl x1), some (.inl x2), some (.inl x3), some (.inl x4), some (.inl x5), none] [.inl 0] σ _
                                refine e_if (P := ¬ (0 : Int32) = 0) q_144 rfl m_c1 (fun c => absurd c (by decide)) (fun _ => ?_)
                                refine e_load q_144 rfl rfl rfl ?_
                                refine e_push q_144 rfl ?_
                                refine e_virt q_144 rfl rfl (Nat.le_of_ble_eq_true rfl) rfl rfl (Nat.le_of_ble_eq_true rfl) rfl ?_
                                show Ev S (d + 1) 118 0 [some (.inr (some 60)), some (.inl (-100001))] [] σ _
                                refine e_load q_118 rfl rfl rfl ?_
                                refine e_dup q_118 rfl ?_
                                refine e_getI q_118 rfl rfl rfl ?_
                                refine e_push q_118 rfl ?_
                                refine e_bin (r := (σ 60 6) + 1) q_118 rfl rfl ?_
                                refine e_putI q_118 rfl rfl rfl ?_
                                refine e_load q_118 rfl rfl rfl ?_
                                refine e_ireturn q_118 rfl rfl ?_
                                show Ev S (d + 2) 144 52 [some (.inr (some 60)), some (.inl x1), some (.inl x2), some (.inl x3), some (.inl x4), some (.inl x5), none] [.inl (-100001)] (up σ 60 6 ((σ 60 6) + 1)) _
                                exact e_ireturn q_144 rfl rfl h
                              · replace h := h.2 c
                                refine e_push q_143 rfl ?_
                                refine e_goto q_143 rfl ?_
                                refine e_zreturn q_143 rfl rfl (by decide) ?_
                                show Ev S (d + 2) 144 48 [some (.inr (some 60)), some (.inl x1), some (.inl x2), some (.inl x3), some (.inl x4), some (.inl x5), none] [.inl 1] σ _
                                refine e_if (P := ¬ (1 : Int32) = 0) q_144 rfl m_c1 (fun _ => ?_) (fun c => absurd (by decide) c)
                                refine e_push q_144 rfl ?_
                                refine e_store (ls' := [some (.inr (some 60)), some (.inl x1), some (.inl x2), some (.inl x3), some (.inl x4), some (.inl x5), some (.inl 0)]) q_144 rfl (Nat.le_of_ble_eq_true rfl) rfl rfl ?_
                                exact h
              · replace h := h.2 c
                refine e_load q_144 rfl rfl rfl ?_
                refine e_push q_144 rfl ?_
                refine e_virt q_144 rfl rfl (Nat.le_of_ble_eq_true rfl) rfl rfl (Nat.le_of_ble_eq_true rfl) rfl ?_
                show Ev S (d + 1) 118 0 [some (.inr (some 60)), some (.inl (-100004))] [] σ _
                refine e_load q_118 rfl rfl rfl ?_
                refine e_dup q_118 rfl ?_
                refine e_getI q_118 rfl rfl rfl ?_
                refine e_push q_118 rfl ?_
                refine e_bin (r := (σ 60 6) + 1) q_118 rfl rfl ?_
                refine e_putI q_118 rfl rfl rfl ?_
                refine e_load q_118 rfl rfl rfl ?_
                refine e_ireturn q_118 rfl rfl ?_
                show Ev S (d + 2) 144 36 [some (.inr (some 60)), some (.inl x1), some (.inl x2), some (.inl x3), some (.inl x4), some (.inl x5), none] [.inl (-100004)] (up σ 60 6 ((σ 60 6) + 1)) _
                exact e_ireturn q_144 rfl rfl h
            · replace h := h.2 c
              refine e_load q_144 rfl rfl rfl ?_
              refine e_push q_144 rfl ?_
              refine e_virt q_144 rfl rfl (Nat.le_of_ble_eq_true rfl) rfl rfl (Nat.le_of_ble_eq_true rfl) rfl ?_
              show Ev S (d + 1) 118 0 [some (.inr (some 60)), some (.inl (-100002))] [] σ _
              refine e_load q_118 rfl rfl rfl ?_
              refine e_dup q_118 rfl ?_
              refine e_getI q_118 rfl rfl rfl ?_
              refine e_push q_118 rfl ?_
              refine e_bin (r := (σ 60 6) + 1) q_118 rfl rfl ?_
              refine e_putI q_118 rfl rfl rfl ?_
              refine e_load q_118 rfl rfl rfl ?_
              refine e_ireturn q_118 rfl rfl ?_
              show Ev S (d + 2) 144 23 [some (.inr (some 60)), some (.inl x1), some (.inl x2), some (.inl x3), some (.inl x4), some (.inl x5), none] [.inl (-100002)] (up σ 60 6 ((σ 60 6) + 1)) _
              exact e_ireturn q_144 rfl rfl h
theorem g_144_55 {S : Nat × (Nat → Int32)} {d : Nat} {σ : Mem} {Q : MQ1} {x1 : Int32} {x2 : Int32} {x3 : Int32} {x4 : Int32} {x5 : Int32} {x6 : Int32}  (h : ((x5 ≤ x6 → Ev S (d + 2) 144 76 [some (.inr (some 60)), some (.inl x1), some (.inl x2), some (.inl x3), some (.inl x4), some (.inl x5), some (.inl 0)] [] σ Q) ∧ (¬ (x5 ≤ x6) → (∃ j1 : Nat, ((6 * x1) + x2) + x6 = nI j1 ∧ j1 < 24 ∧ (∃ j2 : Nat, x6 = nI j2 ∧ j2 < 6 ∧ Ev S (d + 2) 144 55 [some (.inr (some 60)), some (.inl x1), some (.inl x2), some (.inl x3), some (.inl x4), some (.inl x5), some (.inl (x6 + 1))] [] (up σ 66 j2 (σ 65 j1)) Q))))) : Ev S (d + 2) 144 55 [some (.inr (some 60)), some (.inl x1), some (.inl x2), some (.inl x3), some (.inl x4), some (.inl x5), some (.inl x6)] [] σ Q := by
  refine e_load q_144 rfl rfl rfl ?_
  refine e_load q_144 rfl rfl rfl ?_
  refine e_icmp (P := x5 ≤ x6) q_144 rfl m_c3 (fun c => ?_) (fun c => ?_)
  · replace h := h.1 c
    refine e_push q_144 rfl ?_
    refine e_store (ls' := [some (.inr (some 60)), some (.inl x1), some (.inl x2), some (.inl x3), some (.inl x4), some (.inl x5), some (.inl 0)]) q_144 rfl (Nat.le_of_ble_eq_true rfl) rfl rfl ?_
    exact h
  · replace h := h.2 c
    refine e_load q_144 rfl rfl rfl ?_
    refine e_getR q_144 rfl rfl rfl ?_
    refine e_load q_144 rfl rfl rfl ?_
    refine e_load q_144 rfl rfl rfl ?_
    refine e_getR q_144 rfl rfl rfl ?_
    refine e_push q_144 rfl ?_
    refine e_load q_144 rfl rfl rfl ?_
    refine e_bin (r := 6 * x1) q_144 rfl rfl ?_
    refine e_load q_144 rfl rfl rfl ?_
    refine e_bin (r := (6 * x1) + x2) q_144 rfl rfl ?_
    refine e_load q_144 rfl rfl rfl ?_
    refine e_bin (r := ((6 * x1) + x2) + x6) q_144 rfl rfl ?_
    obtain ⟨j1, hjj1, hlj1, h⟩ := h
    refine e_iald q_144 rfl rfl (by decide) hjj1 hlj1 ?_
    obtain ⟨j2, hjj2, hlj2, h⟩ := h
    refine e_iast q_144 rfl rfl (by decide) hjj2 hlj2 ?_
    refine e_iinc (ls' := [some (.inr (some 60)), some (.inl x1), some (.inl x2), some (.inl x3), some (.inl x4), some (.inl x5), some (.inl (x6 + 1))]) q_144 rfl rfl rfl ?_
    refine e_goto q_144 rfl ?_
    exact h
theorem g_144_76 {S : Nat × (Nat → Int32)} {d : Nat} {σ : Mem} {Q : MQ1} {o1 : Option MV} {o2 : Option MV} {x3 : Int32} {x4 : Int32} {x5 : Int32} {x6 : Int32}  (h : ((x5 ≤ x6 → Q [.inl x5] σ) ∧ (¬ (x5 ≤ x6) → (∃ j1 : Nat, x6 = nI j1 ∧ j1 < 6 ∧ (∃ j2 : Nat, ((6 * x3) + x4) + x6 = nI j2 ∧ j2 < 24 ∧ Ev S (d + 2) 144 76 [some (.inr (some 60)), o1, o2, some (.inl x3), some (.inl x4), some (.inl x5), some (.inl (x6 + 1))] [] (up σ 65 j2 (σ 66 j1)) Q))))) : Ev S (d + 2) 144 76 [some (.inr (some 60)), o1, o2, some (.inl x3), some (.inl x4), some (.inl x5), some (.inl x6)] [] σ Q := by
  refine e_load q_144 rfl rfl rfl ?_
  refine e_load q_144 rfl rfl rfl ?_
  refine e_icmp (P := x5 ≤ x6) q_144 rfl m_c3 (fun c => ?_) (fun c => ?_)
  · replace h := h.1 c
    refine e_load q_144 rfl rfl rfl ?_
    exact e_ireturn q_144 rfl rfl h
  · replace h := h.2 c
    refine e_load q_144 rfl rfl rfl ?_
    refine e_getR q_144 rfl rfl rfl ?_
    refine e_push q_144 rfl ?_
    refine e_load q_144 rfl rfl rfl ?_
    refine e_bin (r := 6 * x3) q_144 rfl rfl ?_
    refine e_load q_144 rfl rfl rfl ?_
    refine e_bin (r := (6 * x3) + x4) q_144 rfl rfl ?_
    refine e_load q_144 rfl rfl rfl ?_
    refine e_bin (r := ((6 * x3) + x4) + x6) q_144 rfl rfl ?_
    refine e_load q_144 rfl rfl rfl ?_
    refine e_getR q_144 rfl rfl rfl ?_
    refine e_load q_144 rfl rfl rfl ?_
    obtain ⟨j1, hjj1, hlj1, h⟩ := h
    refine e_iald q_144 rfl rfl (by decide) hjj1 hlj1 ?_
    obtain ⟨j2, hjj2, hlj2, h⟩ := h
    refine e_iast q_144 rfl rfl (by decide) hjj2 hlj2 ?_
    refine e_iinc (ls' := [some (.inr (some 60)), o1, o2, some (.inl x3), some (.inl x4), some (.inl x5), some (.inl (x6 + 1))]) q_144 rfl rfl rfl ?_
    refine e_goto q_144 rfl ?_
    exact h
theorem g_145_0 {S : Nat × (Nat → Int32)} {d : Nat} {σ : Mem} {Q : MQ1} {x1 : Int32}  (h : ((x1 < 0 → Q [.inl (-100001)] (up σ 60 6 ((σ 60 6) + 1))) ∧ (¬ (x1 < 0) → ((3 < x1 → Q [.inl (-100001)] (up σ 60 6 ((σ 60 6) + 1))) ∧ (¬ (3 < x1) → (∃ j1 : Nat, x1 = nI j1 ∧ j1 < 4 ∧ (((¬ (σ 63 j1) = 0) → Ev S (d + 2) 145 18 [some (.inr (some 60)), some (.inl x1), some (.inl 0), none] [] σ Q) ∧ (¬ (¬ (σ 63 j1) = 0) → Q [.inl (-100002)] (up σ 60 6 ((σ 60 6) + 1)))))))))) : Ev S (d + 2) 145 0 [some (.inr (some 60)), some (.inl x1), none, none] [] σ Q := by
  refine e_load q_145 rfl rfl rfl ?_
  refine e_stat q_145 rfl (Nat.le_of_ble_eq_true rfl) rfl rfl (Nat.le_of_ble_eq_true rfl) ?_
  show Ev S (d + 1) 140 0 [some (.inl x1)] [] σ _
  refine e_load q_140 rfl rfl rfl ?_
  refine e_push q_140 rfl ?_
  refine e_push q_140 rfl ?_
  refine e_stat q_140 rfl (Nat.le_of_ble_eq_true rfl) rfl rfl (Nat.le_of_ble_eq_true rfl) ?_
  show Ev S d 119 0 [some (.inl x1), some (.inl 0), some (.inl 3)] [] σ _
  refine e_load q_119 rfl rfl rfl ?_
  refine e_load q_119 rfl rfl rfl ?_
  refine e_icmp (P := x1 < 0) q_119 rfl m_c2 (fun c => ?_) (fun c => ?_)
  · replace h := h.1 c
    refine e_push q_119 rfl ?_
    refine e_zreturn q_119 rfl rfl (by decide) ?_
    show Ev S (d + 1) 140 4 [some (.inl x1)] [.inl 0] σ _
    refine e_zreturn q_140 rfl rfl (by decide) ?_
    show Ev S (d + 2) 145 2 [some (.inr (some 60)), some (.inl x1), none, none] [.inl 0] σ _
    refine e_if (P := ¬ (0 : Int32) = 0) q_145 rfl m_c1 (fun c => absurd c (by decide)) (fun _ => ?_)
    refine e_load q_145 rfl rfl rfl ?_
    refine e_push q_145 rfl ?_
    refine e_virt q_145 rfl rfl (Nat.le_of_ble_eq_true rfl) rfl rfl (Nat.le_of_ble_eq_true rfl) rfl ?_
    show Ev S (d + 1) 118 0 [some (.inr (some 60)), some (.inl (-100001))] [] σ _
    refine e_load q_118 rfl rfl rfl ?_
    refine e_dup q_118 rfl ?_
    refine e_getI q_118 rfl rfl rfl ?_
    refine e_push q_118 rfl ?_
    refine e_bin (r := (σ 60 6) + 1) q_118 rfl rfl ?_
    refine e_putI q_118 rfl rfl rfl ?_
    refine e_load q_118 rfl rfl rfl ?_
    refine e_ireturn q_118 rfl rfl ?_
    show Ev S (d + 2) 145 6 [some (.inr (some 60)), some (.inl x1), none, none] [.inl (-100001)] (up σ 60 6 ((σ 60 6) + 1)) _
    exact e_ireturn q_145 rfl rfl h
  · replace h := h.2 c
    refine e_load q_119 rfl rfl rfl ?_
    refine e_load q_119 rfl rfl rfl ?_
    refine e_icmp (P := 3 < x1) q_119 rfl m_c4 (fun c => ?_) (fun c => ?_)
    · replace h := h.1 c
      refine e_push q_119 rfl ?_
      refine e_zreturn q_119 rfl rfl (by decide) ?_
      show Ev S (d + 1) 140 4 [some (.inl x1)] [.inl 0] σ _
      refine e_zreturn q_140 rfl rfl (by decide) ?_
      show Ev S (d + 2) 145 2 [some (.inr (some 60)), some (.inl x1), none, none] [.inl 0] σ _
      refine e_if (P := ¬ (0 : Int32) = 0) q_145 rfl m_c1 (fun c => absurd c (by decide)) (fun _ => ?_)
      refine e_load q_145 rfl rfl rfl ?_
      refine e_push q_145 rfl ?_
      refine e_virt q_145 rfl rfl (Nat.le_of_ble_eq_true rfl) rfl rfl (Nat.le_of_ble_eq_true rfl) rfl ?_
      show Ev S (d + 1) 118 0 [some (.inr (some 60)), some (.inl (-100001))] [] σ _
      refine e_load q_118 rfl rfl rfl ?_
      refine e_dup q_118 rfl ?_
      refine e_getI q_118 rfl rfl rfl ?_
      refine e_push q_118 rfl ?_
      refine e_bin (r := (σ 60 6) + 1) q_118 rfl rfl ?_
      refine e_putI q_118 rfl rfl rfl ?_
      refine e_load q_118 rfl rfl rfl ?_
      refine e_ireturn q_118 rfl rfl ?_
      show Ev S (d + 2) 145 6 [some (.inr (some 60)), some (.inl x1), none, none] [.inl (-100001)] (up σ 60 6 ((σ 60 6) + 1)) _
      exact e_ireturn q_145 rfl rfl h
    · replace h := h.2 c
      refine e_push q_119 rfl ?_
      refine e_goto q_119 rfl ?_
      refine e_zreturn q_119 rfl rfl (by decide) ?_
      show Ev S (d + 1) 140 4 [some (.inl x1)] [.inl 1] σ _
      refine e_zreturn q_140 rfl rfl (by decide) ?_
      show Ev S (d + 2) 145 2 [some (.inr (some 60)), some (.inl x1), none, none] [.inl 1] σ _
      refine e_if (P := ¬ (1 : Int32) = 0) q_145 rfl m_c1 (fun _ => ?_) (fun c => absurd (by decide) c)
      refine e_load q_145 rfl rfl rfl ?_
      refine e_getR q_145 rfl rfl rfl ?_
      refine e_load q_145 rfl rfl rfl ?_
      obtain ⟨j1, hjj1, hlj1, h⟩ := h
      refine e_iald q_145 rfl rfl (by decide) hjj1 hlj1 ?_
      refine e_if (P := ¬ (σ 63 j1) = 0) q_145 rfl m_c1 (fun c => ?_) (fun c => ?_)
      · replace h := h.1 c
        refine e_push q_145 rfl ?_
        refine e_store (ls' := [some (.inr (some 60)), some (.inl x1), some (.inl 0), none]) q_145 rfl (Nat.le_of_ble_eq_true rfl) rfl rfl ?_
        exact h
      · replace h := h.2 c
        refine e_load q_145 rfl rfl rfl ?_
        refine e_push q_145 rfl ?_
        refine e_virt q_145 rfl rfl (Nat.le_of_ble_eq_true rfl) rfl rfl (Nat.le_of_ble_eq_true rfl) rfl ?_
        show Ev S (d + 1) 118 0 [some (.inr (some 60)), some (.inl (-100002))] [] σ _
        refine e_load q_118 rfl rfl rfl ?_
        refine e_dup q_118 rfl ?_
        refine e_getI q_118 rfl rfl rfl ?_
        refine e_push q_118 rfl ?_
        refine e_bin (r := (σ 60 6) + 1) q_118 rfl rfl ?_
        refine e_putI q_118 rfl rfl rfl ?_
        refine e_load q_118 rfl rfl rfl ?_
        refine e_ireturn q_118 rfl rfl ?_
        show Ev S (d + 2) 145 15 [some (.inr (some 60)), some (.inl x1), none, none] [.inl (-100002)] (up σ 60 6 ((σ 60 6) + 1)) _
        exact e_ireturn q_145 rfl rfl h
theorem g_145_18 {S : Nat × (Nat → Int32)} {d : Nat} {σ : Mem} {Q : MQ1} {x1 : Int32} {x2 : Int32} {o3 : Option MV}  (h : (∃ j1 : Nat, x1 = nI j1 ∧ j1 < 4 ∧ (((σ 64 j1) ≤ x2 → Ec S (d + 1) 126 [.inr (some 60)] σ (fun rv σ' => Ev S (d + 2) 145 42 [some (.inr (some 60)), some (.inl x1), some (.inl x2), o3] (rv ++ []) σ' Q)) ∧ (¬ ((σ 64 j1) ≤ x2) → (∃ j2 : Nat, (6 * x1) + x2 = nI j2 ∧ j2 < 24 ∧ (((σ 65 j2) ≤ 40 → Ev S (d + 2) 145 18 [some (.inr (some 60)), some (.inl x1), some (.inl (x2 + 1)), o3] [] σ Q) ∧ (¬ ((σ 65 j2) ≤ 40) → Q [.inl (-100001)] (up σ 60 6 ((σ 60 6) + 1))))))))) : Ev S (d + 2) 145 18 [some (.inr (some 60)), some (.inl x1), some (.inl x2), o3] [] σ Q := by
  refine e_load q_145 rfl rfl rfl ?_
  refine e_load q_145 rfl rfl rfl ?_
  refine e_getR q_145 rfl rfl rfl ?_
  refine e_load q_145 rfl rfl rfl ?_
  obtain ⟨j1, hjj1, hlj1, h⟩ := h
  refine e_iald q_145 rfl rfl (by decide) hjj1 hlj1 ?_
  refine e_icmp (P := (σ 64 j1) ≤ x2) q_145 rfl m_c3 (fun c => ?_) (fun c => ?_)
  · replace h := h.1 c
    refine e_load q_145 rfl rfl rfl ?_
    exact e_virt q_145 rfl rfl (Nat.le_of_ble_eq_true rfl) rfl rfl (Nat.le_of_ble_eq_true rfl) rfl h
  · replace h := h.2 c
    refine e_load q_145 rfl rfl rfl ?_
    refine e_getR q_145 rfl rfl rfl ?_
    refine e_push q_145 rfl ?_
    refine e_load q_145 rfl rfl rfl ?_
    refine e_bin (r := 6 * x1) q_145 rfl rfl ?_
    refine e_load q_145 rfl rfl rfl ?_
    refine e_bin (r := (6 * x1) + x2) q_145 rfl rfl ?_
    obtain ⟨j2, hjj2, hlj2, h⟩ := h
    refine e_iald q_145 rfl rfl (by decide) hjj2 hlj2 ?_
    refine e_push q_145 rfl ?_
    refine e_icmp (P := (σ 65 j2) ≤ 40) q_145 rfl m_c5 (fun c => ?_) (fun c => ?_)
    · replace h := h.1 c
      refine e_iinc (ls' := [some (.inr (some 60)), some (.inl x1), some (.inl (x2 + 1)), o3]) q_145 rfl rfl rfl ?_
      refine e_goto q_145 rfl ?_
      exact h
    · replace h := h.2 c
      refine e_load q_145 rfl rfl rfl ?_
      refine e_push q_145 rfl ?_
      refine e_virt q_145 rfl rfl (Nat.le_of_ble_eq_true rfl) rfl rfl (Nat.le_of_ble_eq_true rfl) rfl ?_
      show Ev S (d + 1) 118 0 [some (.inr (some 60)), some (.inl (-100001))] [] σ _
      refine e_load q_118 rfl rfl rfl ?_
      refine e_dup q_118 rfl ?_
      refine e_getI q_118 rfl rfl rfl ?_
      refine e_push q_118 rfl ?_
      refine e_bin (r := (σ 60 6) + 1) q_118 rfl rfl ?_
      refine e_putI q_118 rfl rfl rfl ?_
      refine e_load q_118 rfl rfl rfl ?_
      refine e_ireturn q_118 rfl rfl ?_
      show Ev S (d + 2) 145 37 [some (.inr (some 60)), some (.inl x1), some (.inl x2), o3] [.inl (-100001)] (up σ 60 6 ((σ 60 6) + 1)) _
      exact e_ireturn q_145 rfl rfl h
theorem g_145_42 {S : Nat × (Nat → Int32)} {d : Nat} {σ : Mem} {Q : MQ1} {x1 : Int32} {o2 : Option MV} {o3 : Option MV}  (h : Ev S (d + 2) 145 44 [some (.inr (some 60)), some (.inl x1), some (.inl 0), o3] [] σ Q) : Ev S (d + 2) 145 42 [some (.inr (some 60)), some (.inl x1), o2, o3] [] σ Q := by
  refine e_push q_145 rfl ?_
  refine e_store (ls' := [some (.inr (some 60)), some (.inl x1), some (.inl 0), o3]) q_145 rfl (Nat.le_of_ble_eq_true rfl) rfl rfl ?_
  exact h
theorem g_145_44 {S : Nat × (Nat → Int32)} {d : Nat} {σ : Mem} {Q : MQ1} {x1 : Int32} {x2 : Int32} {o3 : Option MV}  (h : (∃ j1 : Nat, x1 = nI j1 ∧ j1 < 4 ∧ (((σ 64 j1) ≤ x2 → (∃ j2 : Nat, x1 = nI j2 ∧ j2 < 4 ∧ Q [.inl (σ 64 j2)] σ)) ∧ (¬ ((σ 64 j1) ≤ x2) → (∃ j3 : Nat, (6 * x1) + x2 = nI j3 ∧ j3 < 24 ∧ ((0 ≤ (σ 65 j3) → (∃ j4 : Nat, 79 + x2 = nI j4 ∧ j4 < 86 ∧ ((0 ≤ (σ 65 j3) → (∃ j5 : Nat, 73 + x2 = nI j5 ∧ j5 < 86 ∧ Ev S (d + 2) 145 44 [some (.inr (some 60)), some (.inl x1), some (.inl (x2 + 1)), some (.inl (σ 65 j3))] [] (up (up σ 61 j4 0) 61 j5 (σ 65 j3)) Q)) ∧ (¬ (0 ≤ (σ 65 j3)) → (∃ j6 : Nat, 73 + x2 = nI j6 ∧ j6 < 86 ∧ (∃ j7 : Nat, 73 + x2 = nI j7 ∧ j7 < 86 ∧ Ev S (d + 2) 145 44 [some (.inr (some 60)), some (.inl x1), some (.inl (x2 + 1)), some (.inl (σ 65 j3))] [] (up (up σ 61 j4 0) 61 j7 ((up σ 61 j4 0) 61 j6)) Q)))))) ∧ (¬ (0 ≤ (σ 65 j3)) → (∃ j8 : Nat, 79 + x2 = nI j8 ∧ j8 < 86 ∧ ((0 ≤ (σ 65 j3) → (∃ j9 : Nat, 73 + x2 = nI j9 ∧ j9 < 86 ∧ Ev S (d + 2) 145 44 [some (.inr (some 60)), some (.inl x1), some (.inl (x2 + 1)), some (.inl (σ 65 j3))] [] (up (up σ 61 j8 1) 61 j9 (σ 65 j3)) Q)) ∧ (¬ (0 ≤ (σ 65 j3)) → (∃ j10 : Nat, 73 + x2 = nI j10 ∧ j10 < 86 ∧ (∃ j11 : Nat, 73 + x2 = nI j11 ∧ j11 < 86 ∧ Ev S (d + 2) 145 44 [some (.inr (some 60)), some (.inl x1), some (.inl (x2 + 1)), some (.inl (σ 65 j3))] [] (up (up σ 61 j8 1) 61 j11 ((up σ 61 j8 1) 61 j10)) Q)))))))))))) : Ev S (d + 2) 145 44 [some (.inr (some 60)), some (.inl x1), some (.inl x2), o3] [] σ Q := by
  refine e_load q_145 rfl rfl rfl ?_
  refine e_load q_145 rfl rfl rfl ?_
  refine e_getR q_145 rfl rfl rfl ?_
  refine e_load q_145 rfl rfl rfl ?_
  obtain ⟨j1, hjj1, hlj1, h⟩ := h
  refine e_iald q_145 rfl rfl (by decide) hjj1 hlj1 ?_
  refine e_icmp (P := (σ 64 j1) ≤ x2) q_145 rfl m_c3 (fun c => ?_) (fun c => ?_)
  · replace h := h.1 c
    refine e_load q_145 rfl rfl rfl ?_
    refine e_getR q_145 rfl rfl rfl ?_
    refine e_load q_145 rfl rfl rfl ?_
    obtain ⟨j2, hjj2, hlj2, h⟩ := h
    refine e_iald q_145 rfl rfl (by decide) hjj2 hlj2 ?_
    exact e_ireturn q_145 rfl rfl h
  · replace h := h.2 c
    refine e_load q_145 rfl rfl rfl ?_
    refine e_getR q_145 rfl rfl rfl ?_
    refine e_push q_145 rfl ?_
    refine e_load q_145 rfl rfl rfl ?_
    refine e_bin (r := 6 * x1) q_145 rfl rfl ?_
    refine e_load q_145 rfl rfl rfl ?_
    refine e_bin (r := (6 * x1) + x2) q_145 rfl rfl ?_
    obtain ⟨j3, hjj3, hlj3, h⟩ := h
    refine e_iald q_145 rfl rfl (by decide) hjj3 hlj3 ?_
    refine e_store (ls' := [some (.inr (some 60)), some (.inl x1), some (.inl x2), some (.inl (σ 65 j3))]) q_145 rfl (Nat.le_of_ble_eq_true rfl) rfl rfl ?_
    refine e_load q_145 rfl rfl rfl ?_
    refine e_getR q_145 rfl rfl rfl ?_
    refine e_push q_145 rfl ?_
    refine e_load q_145 rfl rfl rfl ?_
    refine e_bin (r := 79 + x2) q_145 rfl rfl ?_
    refine e_load q_145 rfl rfl rfl ?_
    refine e_if (P := 0 ≤ (σ 65 j3)) q_145 rfl m_c3 (fun c => ?_) (fun c => ?_)
    · replace h := h.1 c
      refine e_push q_145 rfl ?_
      obtain ⟨j4, hjj4, hlj4, h⟩ := h
      refine e_iast q_145 rfl rfl (by decide) hjj4 hlj4 ?_
      refine e_load q_145 rfl rfl rfl ?_
      refine e_getR q_145 rfl rfl rfl ?_
      refine e_push q_145 rfl ?_
      refine e_load q_145 rfl rfl rfl ?_
      refine e_bin (r := 73 + x2) q_145 rfl rfl ?_
      refine e_load q_145 rfl rfl rfl ?_
      refine e_if (P := 0 ≤ (σ 65 j3)) q_145 rfl m_c3 (fun c => ?_) (fun c => ?_)
      · replace h := h.1 c
        refine e_load q_145 rfl rfl rfl ?_
        obtain ⟨j5, hjj5, hlj5, h⟩ := h
        refine e_iast q_145 rfl rfl (by decide) hjj5 hlj5 ?_
        refine e_iinc (ls' := [some (.inr (some 60)), some (.inl x1), some (.inl (x2 + 1)), some (.inl (σ 65 j3))]) q_145 rfl rfl rfl ?_
        refine e_goto q_145 rfl ?_
        exact h
      · replace h := h.2 c
        refine e_load q_145 rfl rfl rfl ?_
        refine e_getR q_145 rfl rfl rfl ?_
        refine e_push q_145 rfl ?_
        refine e_load q_145 rfl rfl rfl ?_
        refine e_bin (r := 73 + x2) q_145 rfl rfl ?_
        obtain ⟨j6, hjj6, hlj6, h⟩ := h
        refine e_iald q_145 rfl rfl (by decide) hjj6 hlj6 ?_
        refine e_goto q_145 rfl ?_
        obtain ⟨j7, hjj7, hlj7, h⟩ := h
        refine e_iast q_145 rfl rfl (by decide) hjj7 hlj7 ?_
        refine e_iinc (ls' := [some (.inr (some 60)), some (.inl x1), some (.inl (x2 + 1)), some (.inl (σ 65 j3))]) q_145 rfl rfl rfl ?_
        refine e_goto q_145 rfl ?_
        exact h
    · replace h := h.2 c
      refine e_push q_145 rfl ?_
      refine e_goto q_145 rfl ?_
      obtain ⟨j8, hjj8, hlj8, h⟩ := h
      refine e_iast q_145 rfl rfl (by decide) hjj8 hlj8 ?_
      refine e_load q_145 rfl rfl rfl ?_
      refine e_getR q_145 rfl rfl rfl ?_
      refine e_push q_145 rfl ?_
      refine e_load q_145 rfl rfl rfl ?_
      refine e_bin (r := 73 + x2) q_145 rfl rfl ?_
      refine e_load q_145 rfl rfl rfl ?_
      refine e_if (P := 0 ≤ (σ 65 j3)) q_145 rfl m_c3 (fun c => ?_) (fun c => ?_)
      · replace h := h.1 c
        refine e_load q_145 rfl rfl rfl ?_
        obtain ⟨j9, hjj9, hlj9, h⟩ := h
        refine e_iast q_145 rfl rfl (by decide) hjj9 hlj9 ?_
        refine e_iinc (ls' := [some (.inr (some 60)), some (.inl x1), some (.inl (x2 + 1)), some (.inl (σ 65 j3))]) q_145 rfl rfl rfl ?_
        refine e_goto q_145 rfl ?_
        exact h
      · replace h := h.2 c
        refine e_load q_145 rfl rfl rfl ?_
        refine e_getR q_145 rfl rfl rfl ?_
        refine e_push q_145 rfl ?_
        refine e_load q_145 rfl rfl rfl ?_
        refine e_bin (r := 73 + x2) q_145 rfl rfl ?_
        obtain ⟨j10, hjj10, hlj10, h⟩ := h
        refine e_iald q_145 rfl rfl (by decide) hjj10 hlj10 ?_
        refine e_goto q_145 rfl ?_
        obtain ⟨j11, hjj11, hlj11, h⟩ := h
        refine e_iast q_145 rfl rfl (by decide) hjj11 hlj11 ?_
        refine e_iinc (ls' := [some (.inr (some 60)), some (.inl x1), some (.inl (x2 + 1)), some (.inl (σ 65 j3))]) q_145 rfl rfl rfl ?_
        refine e_goto q_145 rfl ?_
        exact h
theorem g_146_27 {S : Nat × (Nat → Int32)} {d : Nat} {σ : Mem} {Q : MQ1} {o0 : Option MV} {o1 : Option MV} {o2 : Option MV} {o3 : Option MV} {y0 : Int32}  (h : Q [.inl y0] σ) : Ev S (d + 2) 146 27 [o0, o1, o2, o3] [.inl y0] σ Q := by
  exact e_ireturn q_146 rfl rfl h
theorem g_147_0 {S : Nat × (Nat → Int32)} {d : Nat} {σ : Mem} {Q : MQ1} {x1 : Int32} {x2 : Int32}  (h : ((x1 < 0 → Q [.inl (-100001)] (up σ 60 6 ((σ 60 6) + 1))) ∧ (¬ (x1 < 0) → (((σ 61 0) ≤ x1 → Q [.inl (-100001)] (up σ 60 6 ((σ 60 6) + 1))) ∧ (¬ ((σ 61 0) ≤ x1) → ((x2 = (-1) → (∃ j2 : Nat, (1 + (9 * x1)) + 0 = nI j2 ∧ j2 < 86 ∧ (((¬ (σ 61 j2) = 2) → Ec S d 126 [.inr (some 60)] σ (fun rv σ' => Ev S (d + 1) 132 2 [some (.inr (some 60)), some (.inl x1), some (.inl 6), some (.inl x2), none] (rv ++ []) σ' (fun rv σ' => Ev S (d + 2) 146 27 [some (.inr (some 60)), some (.inl x1), some (.inl 6), some (.inl x2)] (rv ++ []) σ' (fun rv σ' => Ev S (d + 3) 147 5 [some (.inr (some 60)), some (.inl x1), some (.inl x2)] (rv ++ []) σ' Q)))) ∧ (¬ (¬ (σ 61 j2) = 2) → Q [.inl (-100004)] (up σ 60 6 ((σ 60 6) + 1)))))) ∧ (¬ (x2 = (-1)) → ((x2 < 0 → Q [.inl (-100001)] (up σ 60 6 ((σ 60 6) + 1))) ∧ (¬ (x2 < 0) → ((5 < x2 → Q [.inl (-100001)] (up σ 60 6 ((σ 60 6) + 1))) ∧ (¬ (5 < x2) → (∃ j3 : Nat, (1 + (9 * x1)) + 0 = nI j3 ∧ j3 < 86 ∧ (((¬ (σ 61 j3) = 2) → Ec S d 126 [.inr (some 60)] σ (fun rv σ' => Ev S (d + 1) 132 2 [some (.inr (some 60)), some (.inl x1), some (.inl 6), some (.inl x2), none] (rv ++ []) σ' (fun rv σ' => Ev S (d + 2) 146 27 [some (.inr (some 60)), some (.inl x1), some (.inl 6), some (.inl x2)] (rv ++ []) σ' (fun rv σ' => Ev S (d + 3) 147 5 [some (.inr (some 60)), some (.inl x1), some (.inl x2)] (rv ++ []) σ' Q)))) ∧ (¬ (¬ (σ 61 j3) = 2) → Q [.inl (-100004)] (up σ 60 6 ((σ 60 6) + 1)))))))))))))))) : Ev S (d + 3) 147 0 [some (.inr (some 60)), some (.inl x1), some (.inl x2)] [] σ Q := by
  refine e_load q_147 rfl rfl rfl ?_
  refine e_load q_147 rfl rfl rfl ?_
  refine e_push q_147 rfl ?_
  refine e_load q_147 rfl rfl rfl ?_
  refine e_virt q_147 rfl rfl (Nat.le_of_ble_eq_true rfl) rfl rfl (Nat.le_of_ble_eq_true rfl) rfl ?_
  show Ev S (d + 2) 146 0 [some (.inr (some 60)), some (.inl x1), some (.inl 6), some (.inl x2)] [] σ _
  refine e_load q_146 rfl rfl rfl ?_
  refine e_load q_146 rfl rfl rfl ?_
  refine e_virt q_146 rfl rfl (Nat.le_of_ble_eq_true rfl) rfl rfl (Nat.le_of_ble_eq_true rfl) rfl ?_
  show Ev S (d + 1) 120 0 [some (.inr (some 60)), some (.inl x1)] [] σ _
  refine e_load q_120 rfl rfl rfl ?_
  refine e_if (P := x1 < 0) q_120 rfl m_c2 (fun c => ?_) (fun c => ?_)
  · replace h := h.1 c
    refine e_push q_120 rfl ?_
    refine e_zreturn q_120 rfl rfl (by decide) ?_
    show Ev S (d + 2) 146 3 [some (.inr (some 60)), some (.inl x1), some (.inl 6), some (.inl x2)] [.inl 0] σ _
    refine e_if (P := (0 : Int32) = 0) q_146 rfl m_c0 (fun _ => ?_) (fun c => absurd (by decide) c)
    refine e_load q_146 rfl rfl rfl ?_
    refine e_push q_146 rfl ?_
    refine e_virt q_146 rfl rfl (Nat.le_of_ble_eq_true rfl) rfl rfl (Nat.le_of_ble_eq_true rfl) rfl ?_
    show Ev S (d + 1) 118 0 [some (.inr (some 60)), some (.inl (-100001))] [] σ _
    refine e_load q_118 rfl rfl rfl ?_
    refine e_dup q_118 rfl ?_
    refine e_getI q_118 rfl rfl rfl ?_
    refine e_push q_118 rfl ?_
    refine e_bin (r := (σ 60 6) + 1) q_118 rfl rfl ?_
    refine e_putI q_118 rfl rfl rfl ?_
    refine e_load q_118 rfl rfl rfl ?_
    refine e_ireturn q_118 rfl rfl ?_
    show Ev S (d + 2) 146 13 [some (.inr (some 60)), some (.inl x1), some (.inl 6), some (.inl x2)] [.inl (-100001)] (up σ 60 6 ((σ 60 6) + 1)) _
    refine e_ireturn q_146 rfl rfl ?_
    show Ev S (d + 3) 147 5 [some (.inr (some 60)), some (.inl x1), some (.inl x2)] [.inl (-100001)] (up σ 60 6 ((σ 60 6) + 1)) _
    exact e_ireturn q_147 rfl rfl h
  · replace h := h.2 c
    refine e_load q_120 rfl rfl rfl ?_
    refine e_load q_120 rfl rfl rfl ?_
    refine e_getR q_120 rfl rfl rfl ?_
    refine e_push q_120 rfl ?_
    refine e_iald (j := 0) q_120 rfl rfl (by decide) (by decide +kernel) (by decide) ?_
    refine e_icmp (P := (σ 61 0) ≤ x1) q_120 rfl m_c3 (fun c => ?_) (fun c => ?_)
    · replace h := h.1 c
      refine e_push q_120 rfl ?_
      refine e_zreturn q_120 rfl rfl (by decide) ?_
      show Ev S (d + 2) 146 3 [some (.inr (some 60)), some (.inl x1), some (.inl 6), some (.inl x2)] [.inl 0] σ _
      refine e_if (P := (0 : Int32) = 0) q_146 rfl m_c0 (fun _ => ?_) (fun c => absurd (by decide) c)
      refine e_load q_146 rfl rfl rfl ?_
      refine e_push q_146 rfl ?_
      refine e_virt q_146 rfl rfl (Nat.le_of_ble_eq_true rfl) rfl rfl (Nat.le_of_ble_eq_true rfl) rfl ?_
      show Ev S (d + 1) 118 0 [some (.inr (some 60)), some (.inl (-100001))] [] σ _
      refine e_load q_118 rfl rfl rfl ?_
      refine e_dup q_118 rfl ?_
      refine e_getI q_118 rfl rfl rfl ?_
      refine e_push q_118 rfl ?_
      refine e_bin (r := (σ 60 6) + 1) q_118 rfl rfl ?_
      refine e_putI q_118 rfl rfl rfl ?_
      refine e_load q_118 rfl rfl rfl ?_
      refine e_ireturn q_118 rfl rfl ?_
      show Ev S (d + 2) 146 13 [some (.inr (some 60)), some (.inl x1), some (.inl 6), some (.inl x2)] [.inl (-100001)] (up σ 60 6 ((σ 60 6) + 1)) _
      refine e_ireturn q_146 rfl rfl ?_
      show Ev S (d + 3) 147 5 [some (.inr (some 60)), some (.inl x1), some (.inl x2)] [.inl (-100001)] (up σ 60 6 ((σ 60 6) + 1)) _
      exact e_ireturn q_147 rfl rfl h
    · replace h := h.2 c
      refine e_push q_120 rfl ?_
      refine e_goto q_120 rfl ?_
      refine e_zreturn q_120 rfl rfl (by decide) ?_
      show Ev S (d + 2) 146 3 [some (.inr (some 60)), some (.inl x1), some (.inl 6), some (.inl x2)] [.inl 1] σ _
      refine e_if (P := (1 : Int32) = 0) q_146 rfl m_c0 (fun c => absurd c (by decide)) (fun _ => ?_)
      refine e_load q_146 rfl rfl rfl ?_
      refine e_push q_146 rfl ?_
      refine e_icmp (P := x2 = (-1)) q_146 rfl m_c0 (fun c => ?_) (fun c => ?_)
      · replace h := h.1 c
        refine e_load q_146 rfl rfl rfl ?_
        refine e_load q_146 rfl rfl rfl ?_
        refine e_virt q_146 rfl rfl (Nat.le_of_ble_eq_true rfl) rfl rfl (Nat.le_of_ble_eq_true rfl) rfl ?_
        show Ev S (d + 1) 124 0 [some (.inr (some 60)), some (.inl x1)] [] σ _
        refine e_load q_124 rfl rfl rfl ?_
        refine e_load q_124 rfl rfl rfl ?_
        refine e_push q_124 rfl ?_
        refine e_virt q_124 rfl rfl (Nat.le_of_ble_eq_true rfl) rfl rfl (Nat.le_of_ble_eq_true rfl) rfl ?_
        show Ev S d 122 0 [some (.inr (some 60)), some (.inl x1), some (.inl 0)] [] σ _
        refine e_load q_122 rfl rfl rfl ?_
        refine e_getR q_122 rfl rfl rfl ?_
        refine e_push q_122 rfl ?_
        refine e_push q_122 rfl ?_
        refine e_load q_122 rfl rfl rfl ?_
        refine e_bin (r := 9 * x1) q_122 rfl rfl ?_
        refine e_bin (r := 1 + (9 * x1)) q_122 rfl rfl ?_
        refine e_load q_122 rfl rfl rfl ?_
        refine e_bin (r := (1 + (9 * x1)) + 0) q_122 rfl rfl ?_
        obtain ⟨j2, hjj2, hlj2, h⟩ := h
        refine e_iald q_122 rfl rfl (by decide) hjj2 hlj2 ?_
        refine e_ireturn q_122 rfl rfl ?_
        show Ev S (d + 1) 124 4 [some (.inr (some 60)), some (.inl x1)] [.inl (σ 61 j2)] σ _
        refine e_push q_124 rfl ?_
        refine e_icmp (P := ¬ (σ 61 j2) = 2) q_124 rfl m_c1 (fun c => ?_) (fun c => ?_)
        · replace h := h.1 c
          refine e_push q_124 rfl ?_
          refine e_zreturn q_124 rfl rfl (by decide) ?_
          show Ev S (d + 2) 146 17 [some (.inr (some 60)), some (.inl x1), some (.inl 6), some (.inl x2)] [.inl 0] σ _
          refine e_if (P := (0 : Int32) = 0) q_146 rfl m_c0 (fun _ => ?_) (fun c => absurd (by decide) c)
          refine e_load q_146 rfl rfl rfl ?_
          refine e_load q_146 rfl rfl rfl ?_
          refine e_load q_146 rfl rfl rfl ?_
          refine e_load q_146 rfl rfl rfl ?_
          refine e_virt q_146 rfl rfl (Nat.le_of_ble_eq_true rfl) rfl rfl (Nat.le_of_ble_eq_true rfl) rfl ?_
          show Ev S (d + 1) 132 0 [some (.inr (some 60)), some (.inl x1), some (.inl 6), some (.inl x2), none] [] σ _
          refine e_load q_132 rfl rfl rfl ?_
          exact e_virt q_132 rfl rfl (Nat.le_of_ble_eq_true rfl) rfl rfl (Nat.le_of_ble_eq_true rfl) rfl h
        · replace h := h.2 c
          refine e_push q_124 rfl ?_
          refine e_goto q_124 rfl ?_
          refine e_zreturn q_124 rfl rfl (by decide) ?_
          show Ev S (d + 2) 146 17 [some (.inr (some 60)), some (.inl x1), some (.inl 6), some (.inl x2)] [.inl 1] σ _
          refine e_if (P := (1 : Int32) = 0) q_146 rfl m_c0 (fun c => absurd c (by decide)) (fun _ => ?_)
          refine e_load q_146 rfl rfl rfl ?_
          refine e_push q_146 rfl ?_
          refine e_virt q_146 rfl rfl (Nat.le_of_ble_eq_true rfl) rfl rfl (Nat.le_of_ble_eq_true rfl) rfl ?_
          show Ev S (d + 1) 118 0 [some (.inr (some 60)), some (.inl (-100004))] [] σ _
          refine e_load q_118 rfl rfl rfl ?_
          refine e_dup q_118 rfl ?_
          refine e_getI q_118 rfl rfl rfl ?_
          refine e_push q_118 rfl ?_
          refine e_bin (r := (σ 60 6) + 1) q_118 rfl rfl ?_
          refine e_putI q_118 rfl rfl rfl ?_
          refine e_load q_118 rfl rfl rfl ?_
          refine e_ireturn q_118 rfl rfl ?_
          show Ev S (d + 2) 146 21 [some (.inr (some 60)), some (.inl x1), some (.inl 6), some (.inl x2)] [.inl (-100004)] (up σ 60 6 ((σ 60 6) + 1)) _
          refine e_goto q_146 rfl ?_
          refine e_ireturn q_146 rfl rfl ?_
          show Ev S (d + 3) 147 5 [some (.inr (some 60)), some (.inl x1), some (.inl x2)] [.inl (-100004)] (up σ 60 6 ((σ 60 6) + 1)) _
          exact e_ireturn q_147 rfl rfl h
      · replace h := h.2 c
        refine e_load q_146 rfl rfl rfl ?_
        refine e_stat q_146 rfl (Nat.le_of_ble_eq_true rfl) rfl rfl (Nat.le_of_ble_eq_true rfl) ?_
        show Ev S (d + 1) 121 0 [some (.inl x2)] [] σ _
        refine e_load q_121 rfl rfl rfl ?_
        refine e_push q_121 rfl ?_
        refine e_push q_121 rfl ?_
        refine e_stat q_121 rfl (Nat.le_of_ble_eq_true rfl) rfl rfl (Nat.le_of_ble_eq_true rfl) ?_
        show Ev S d 119 0 [some (.inl x2), some (.inl 0), some (.inl 5)] [] σ _
        refine e_load q_119 rfl rfl rfl ?_
        refine e_load q_119 rfl rfl rfl ?_
        refine e_icmp (P := x2 < 0) q_119 rfl m_c2 (fun c => ?_) (fun c => ?_)
        · replace h := h.1 c
          refine e_push q_119 rfl ?_
          refine e_zreturn q_119 rfl rfl (by decide) ?_
          show Ev S (d + 1) 121 4 [some (.inl x2)] [.inl 0] σ _
          refine e_zreturn q_121 rfl rfl (by decide) ?_
          show Ev S (d + 2) 146 9 [some (.inr (some 60)), some (.inl x1), some (.inl 6), some (.inl x2)] [.inl 0] σ _
          refine e_if (P := ¬ (0 : Int32) = 0) q_146 rfl m_c1 (fun c => absurd c (by decide)) (fun _ => ?_)
          refine e_load q_146 rfl rfl rfl ?_
          refine e_push q_146 rfl ?_
          refine e_virt q_146 rfl rfl (Nat.le_of_ble_eq_true rfl) rfl rfl (Nat.le_of_ble_eq_true rfl) rfl ?_
          show Ev S (d + 1) 118 0 [some (.inr (some 60)), some (.inl (-100001))] [] σ _
          refine e_load q_118 rfl rfl rfl ?_
          refine e_dup q_118 rfl ?_
          refine e_getI q_118 rfl rfl rfl ?_
          refine e_push q_118 rfl ?_
          refine e_bin (r := (σ 60 6) + 1) q_118 rfl rfl ?_
          refine e_putI q_118 rfl rfl rfl ?_
          refine e_load q_118 rfl rfl rfl ?_
          refine e_ireturn q_118 rfl rfl ?_
          show Ev S (d + 2) 146 13 [some (.inr (some 60)), some (.inl x1), some (.inl 6), some (.inl x2)] [.inl (-100001)] (up σ 60 6 ((σ 60 6) + 1)) _
          refine e_ireturn q_146 rfl rfl ?_
          show Ev S (d + 3) 147 5 [some (.inr (some 60)), some (.inl x1), some (.inl x2)] [.inl (-100001)] (up σ 60 6 ((σ 60 6) + 1)) _
          exact e_ireturn q_147 rfl rfl h
        · replace h := h.2 c
          refine e_load q_119 rfl rfl rfl ?_
          refine e_load q_119 rfl rfl rfl ?_
          refine e_icmp (P := 5 < x2) q_119 rfl m_c4 (fun c => ?_) (fun c => ?_)
          · replace h := h.1 c
            refine e_push q_119 rfl ?_
            refine e_zreturn q_119 rfl rfl (by decide) ?_
            show Ev S (d + 1) 121 4 [some (.inl x2)] [.inl 0] σ _
            refine e_zreturn q_121 rfl rfl (by decide) ?_
            show Ev S (d + 2) 146 9 [some (.inr (some 60)), some (.inl x1), some (.inl 6), some (.inl x2)] [.inl 0] σ _
            refine e_if (P := ¬ (0 : Int32) = 0) q_146 rfl m_c1 (fun c => absurd c (by decide)) (fun _ => ?_)
            refine e_load q_146 rfl rfl rfl ?_
            refine e_push q_146 rfl ?_
            refine e_virt q_146 rfl rfl (Nat.le_of_ble_eq_true rfl) rfl rfl (Nat.le_of_ble_eq_true rfl) rfl ?_
            show Ev S (d + 1) 118 0 [some (.inr (some 60)), some (.inl (-100001))] [] σ _
            refine e_load q_118 rfl rfl rfl ?_
            refine e_dup q_118 rfl ?_
            refine e_getI q_118 rfl rfl rfl ?_
            refine e_push q_118 rfl ?_
            refine e_bin (r := (σ 60 6) + 1) q_118 rfl rfl ?_
            refine e_putI q_118 rfl rfl rfl ?_
            refine e_load q_118 rfl rfl rfl ?_
            refine e_ireturn q_118 rfl rfl ?_
            show Ev S (d + 2) 146 13 [some (.inr (some 60)), some (.inl x1), some (.inl 6), some (.inl x2)] [.inl (-100001)] (up σ 60 6 ((σ 60 6) + 1)) _
            refine e_ireturn q_146 rfl rfl ?_
            show Ev S (d + 3) 147 5 [some (.inr (some 60)), some (.inl x1), some (.inl x2)] [.inl (-100001)] (up σ 60 6 ((σ 60 6) + 1)) _
            exact e_ireturn q_147 rfl rfl h
          · replace h := h.2 c
            refine e_push q_119 rfl ?_
            refine e_goto q_119 rfl ?_
            refine e_zreturn q_119 rfl rfl (by decide) ?_
            show Ev S (d + 1) 121 4 [some (.inl x2)] [.inl 1] σ _
            refine e_zreturn q_121 rfl rfl (by decide) ?_
            show Ev S (d + 2) 146 9 [some (.inr (some 60)), some (.inl x1), some (.inl 6), some (.inl x2)] [.inl 1] σ _
            refine e_if (P := ¬ (1 : Int32) = 0) q_146 rfl m_c1 (fun _ => ?_) (fun c => absurd (by decide) c)
            refine e_load q_146 rfl rfl rfl ?_
            refine e_load q_146 rfl rfl rfl ?_
            refine e_virt q_146 rfl rfl (Nat.le_of_ble_eq_true rfl) rfl rfl (Nat.le_of_ble_eq_true rfl) rfl ?_
            show Ev S (d + 1) 124 0 [some (.inr (some 60)), some (.inl x1)] [] σ _
            refine e_load q_124 rfl rfl rfl ?_
            refine e_load q_124 rfl rfl rfl ?_
            refine e_push q_124 rfl ?_
            refine e_virt q_124 rfl rfl (Nat.le_of_ble_eq_true rfl) rfl rfl (Nat.le_of_ble_eq_true rfl) rfl ?_
            show Ev S d 122 0 [some (.inr (some 60)), some (.inl x1), some (.inl 0)] [] σ _
            refine e_load q_122 rfl rfl rfl ?_
            refine e_getR q_122 rfl rfl rfl ?_
            refine e_push q_122 rfl ?_
            refine e_push q_122 rfl ?_
            refine e_load q_122 rfl rfl rfl ?_
            refine e_bin (r := 9 * x1) q_122 rfl rfl ?_
            refine e_bin (r := 1 + (9 * x1)) q_122 rfl rfl ?_
            refine e_load q_122 rfl rfl rfl ?_
            refine e_bin (r := (1 + (9 * x1)) + 0) q_122 rfl rfl ?_
            obtain ⟨j3, hjj3, hlj3, h⟩ := h
            refine e_iald q_122 rfl rfl (by decide) hjj3 hlj3 ?_
            refine e_ireturn q_122 rfl rfl ?_
            show Ev S (d + 1) 124 4 [some (.inr (some 60)), some (.inl x1)] [.inl (σ 61 j3)] σ _
            refine e_push q_124 rfl ?_
            refine e_icmp (P := ¬ (σ 61 j3) = 2) q_124 rfl m_c1 (fun c => ?_) (fun c => ?_)
            · replace h := h.1 c
              refine e_push q_124 rfl ?_
              refine e_zreturn q_124 rfl rfl (by decide) ?_
              show Ev S (d + 2) 146 17 [some (.inr (some 60)), some (.inl x1), some (.inl 6), some (.inl x2)] [.inl 0] σ _
              refine e_if (P := (0 : Int32) = 0) q_146 rfl m_c0 (fun _ => ?_) (fun c => absurd (by decide) c)
              refine e_load q_146 rfl rfl rfl ?_
              refine e_load q_146 rfl rfl rfl ?_
              refine e_load q_146 rfl rfl rfl ?_
              refine e_load q_146 rfl rfl rfl ?_
              refine e_virt q_146 rfl rfl (Nat.le_of_ble_eq_true rfl) rfl rfl (Nat.le_of_ble_eq_true rfl) rfl ?_
              show Ev S (d + 1) 132 0 [some (.inr (some 60)), some (.inl x1), some (.inl 6), some (.inl x2), none] [] σ _
              refine e_load q_132 rfl rfl rfl ?_
              exact e_virt q_132 rfl rfl (Nat.le_of_ble_eq_true rfl) rfl rfl (Nat.le_of_ble_eq_true rfl) rfl h
            · replace h := h.2 c
              refine e_push q_124 rfl ?_
              refine e_goto q_124 rfl ?_
              refine e_zreturn q_124 rfl rfl (by decide) ?_
              show Ev S (d + 2) 146 17 [some (.inr (some 60)), some (.inl x1), some (.inl 6), some (.inl x2)] [.inl 1] σ _
              refine e_if (P := (1 : Int32) = 0) q_146 rfl m_c0 (fun c => absurd c (by decide)) (fun _ => ?_)
              refine e_load q_146 rfl rfl rfl ?_
              refine e_push q_146 rfl ?_
              refine e_virt q_146 rfl rfl (Nat.le_of_ble_eq_true rfl) rfl rfl (Nat.le_of_ble_eq_true rfl) rfl ?_
              show Ev S (d + 1) 118 0 [some (.inr (some 60)), some (.inl (-100004))] [] σ _
              refine e_load q_118 rfl rfl rfl ?_
              refine e_dup q_118 rfl ?_
              refine e_getI q_118 rfl rfl rfl ?_
              refine e_push q_118 rfl ?_
              refine e_bin (r := (σ 60 6) + 1) q_118 rfl rfl ?_
              refine e_putI q_118 rfl rfl rfl ?_
              refine e_load q_118 rfl rfl rfl ?_
              refine e_ireturn q_118 rfl rfl ?_
              show Ev S (d + 2) 146 21 [some (.inr (some 60)), some (.inl x1), some (.inl 6), some (.inl x2)] [.inl (-100004)] (up σ 60 6 ((σ 60 6) + 1)) _
              refine e_goto q_146 rfl ?_
              refine e_ireturn q_146 rfl rfl ?_
              show Ev S (d + 3) 147 5 [some (.inr (some 60)), some (.inl x1), some (.inl x2)] [.inl (-100004)] (up σ 60 6 ((σ 60 6) + 1)) _
              exact e_ireturn q_147 rfl rfl h
theorem g_147_5 {S : Nat × (Nat → Int32)} {d : Nat} {σ : Mem} {Q : MQ1} {o0 : Option MV} {o1 : Option MV} {o2 : Option MV} {y0 : Int32}  (h : Q [.inl y0] σ) : Ev S (d + 3) 147 5 [o0, o1, o2] [.inl y0] σ Q := by
  exact e_ireturn q_147 rfl rfl h
theorem g_148_0 {S : Nat × (Nat → Int32)} {d : Nat} {σ : Mem} {Q : MQ1} {x1 : Int32} {x2 : Int32}  (h : ((x1 < 0 → Q [.inl (-100001)] (up σ 60 6 ((σ 60 6) + 1))) ∧ (¬ (x1 < 0) → (((σ 61 0) ≤ x1 → Q [.inl (-100001)] (up σ 60 6 ((σ 60 6) + 1))) ∧ (¬ ((σ 61 0) ≤ x1) → ((x2 = (-1) → (∃ j2 : Nat, (1 + (9 * x1)) + 0 = nI j2 ∧ j2 < 86 ∧ (((¬ (σ 61 j2) = 2) → Ec S d 126 [.inr (some 60)] σ (fun rv σ' => Ev S (d + 1) 132 2 [some (.inr (some 60)), some (.inl x1), some (.inl 7), some (.inl x2), none] (rv ++ []) σ' (fun rv σ' => Ev S (d + 2) 146 27 [some (.inr (some 60)), some (.inl x1), some (.inl 7), some (.inl x2)] (rv ++ []) σ' (fun rv σ' => Ev S (d + 3) 148 5 [some (.inr (some 60)), some (.inl x1), some (.inl x2)] (rv ++ []) σ' Q)))) ∧ (¬ (¬ (σ 61 j2) = 2) → Q [.inl (-100004)] (up σ 60 6 ((σ 60 6) + 1)))))) ∧ (¬ (x2 = (-1)) → ((x2 < 0 → Q [.inl (-100001)] (up σ 60 6 ((σ 60 6) + 1))) ∧ (¬ (x2 < 0) → ((5 < x2 → Q [.inl (-100001)] (up σ 60 6 ((σ 60 6) + 1))) ∧ (¬ (5 < x2) → (∃ j3 : Nat, (1 + (9 * x1)) + 0 = nI j3 ∧ j3 < 86 ∧ (((¬ (σ 61 j3) = 2) → Ec S d 126 [.inr (some 60)] σ (fun rv σ' => Ev S (d + 1) 132 2 [some (.inr (some 60)), some (.inl x1), some (.inl 7), some (.inl x2), none] (rv ++ []) σ' (fun rv σ' => Ev S (d + 2) 146 27 [some (.inr (some 60)), some (.inl x1), some (.inl 7), some (.inl x2)] (rv ++ []) σ' (fun rv σ' => Ev S (d + 3) 148 5 [some (.inr (some 60)), some (.inl x1), some (.inl x2)] (rv ++ []) σ' Q)))) ∧ (¬ (¬ (σ 61 j3) = 2) → Q [.inl (-100004)] (up σ 60 6 ((σ 60 6) + 1)))))))))))))))) : Ev S (d + 3) 148 0 [some (.inr (some 60)), some (.inl x1), some (.inl x2)] [] σ Q := by
  refine e_load q_148 rfl rfl rfl ?_
  refine e_load q_148 rfl rfl rfl ?_
  refine e_push q_148 rfl ?_
  refine e_load q_148 rfl rfl rfl ?_
  refine e_virt q_148 rfl rfl (Nat.le_of_ble_eq_true rfl) rfl rfl (Nat.le_of_ble_eq_true rfl) rfl ?_
  show Ev S (d + 2) 146 0 [some (.inr (some 60)), some (.inl x1), some (.inl 7), some (.inl x2)] [] σ _
  refine e_load q_146 rfl rfl rfl ?_
  refine e_load q_146 rfl rfl rfl ?_
  refine e_virt q_146 rfl rfl (Nat.le_of_ble_eq_true rfl) rfl rfl (Nat.le_of_ble_eq_true rfl) rfl ?_
  show Ev S (d + 1) 120 0 [some (.inr (some 60)), some (.inl x1)] [] σ _
  refine e_load q_120 rfl rfl rfl ?_
  refine e_if (P := x1 < 0) q_120 rfl m_c2 (fun c => ?_) (fun c => ?_)
  · replace h := h.1 c
    refine e_push q_120 rfl ?_
    refine e_zreturn q_120 rfl rfl (by decide) ?_
    show Ev S (d + 2) 146 3 [some (.inr (some 60)), some (.inl x1), some (.inl 7), some (.inl x2)] [.inl 0] σ _
    refine e_if (P := (0 : Int32) = 0) q_146 rfl m_c0 (fun _ => ?_) (fun c => absurd (by decide) c)
    refine e_load q_146 rfl rfl rfl ?_
    refine e_push q_146 rfl ?_
    refine e_virt q_146 rfl rfl (Nat.le_of_ble_eq_true rfl) rfl rfl (Nat.le_of_ble_eq_true rfl) rfl ?_
    show Ev S (d + 1) 118 0 [some (.inr (some 60)), some (.inl (-100001))] [] σ _
    refine e_load q_118 rfl rfl rfl ?_
    refine e_dup q_118 rfl ?_
    refine e_getI q_118 rfl rfl rfl ?_
    refine e_push q_118 rfl ?_
    refine e_bin (r := (σ 60 6) + 1) q_118 rfl rfl ?_
    refine e_putI q_118 rfl rfl rfl ?_
    refine e_load q_118 rfl rfl rfl ?_
    refine e_ireturn q_118 rfl rfl ?_
    show Ev S (d + 2) 146 13 [some (.inr (some 60)), some (.inl x1), some (.inl 7), some (.inl x2)] [.inl (-100001)] (up σ 60 6 ((σ 60 6) + 1)) _
    refine e_ireturn q_146 rfl rfl ?_
    show Ev S (d + 3) 148 5 [some (.inr (some 60)), some (.inl x1), some (.inl x2)] [.inl (-100001)] (up σ 60 6 ((σ 60 6) + 1)) _
    exact e_ireturn q_148 rfl rfl h
  · replace h := h.2 c
    refine e_load q_120 rfl rfl rfl ?_
    refine e_load q_120 rfl rfl rfl ?_
    refine e_getR q_120 rfl rfl rfl ?_
    refine e_push q_120 rfl ?_
    refine e_iald (j := 0) q_120 rfl rfl (by decide) (by decide +kernel) (by decide) ?_
    refine e_icmp (P := (σ 61 0) ≤ x1) q_120 rfl m_c3 (fun c => ?_) (fun c => ?_)
    · replace h := h.1 c
      refine e_push q_120 rfl ?_
      refine e_zreturn q_120 rfl rfl (by decide) ?_
      show Ev S (d + 2) 146 3 [some (.inr (some 60)), some (.inl x1), some (.inl 7), some (.inl x2)] [.inl 0] σ _
      refine e_if (P := (0 : Int32) = 0) q_146 rfl m_c0 (fun _ => ?_) (fun c => absurd (by decide) c)
      refine e_load q_146 rfl rfl rfl ?_
      refine e_push q_146 rfl ?_
      refine e_virt q_146 rfl rfl (Nat.le_of_ble_eq_true rfl) rfl rfl (Nat.le_of_ble_eq_true rfl) rfl ?_
      show Ev S (d + 1) 118 0 [some (.inr (some 60)), some (.inl (-100001))] [] σ _
      refine e_load q_118 rfl rfl rfl ?_
      refine e_dup q_118 rfl ?_
      refine e_getI q_118 rfl rfl rfl ?_
      refine e_push q_118 rfl ?_
      refine e_bin (r := (σ 60 6) + 1) q_118 rfl rfl ?_
      refine e_putI q_118 rfl rfl rfl ?_
      refine e_load q_118 rfl rfl rfl ?_
      refine e_ireturn q_118 rfl rfl ?_
      show Ev S (d + 2) 146 13 [some (.inr (some 60)), some (.inl x1), some (.inl 7), some (.inl x2)] [.inl (-100001)] (up σ 60 6 ((σ 60 6) + 1)) _
      refine e_ireturn q_146 rfl rfl ?_
      show Ev S (d + 3) 148 5 [some (.inr (some 60)), some (.inl x1), some (.inl x2)] [.inl (-100001)] (up σ 60 6 ((σ 60 6) + 1)) _
      exact e_ireturn q_148 rfl rfl h
    · replace h := h.2 c
      refine e_push q_120 rfl ?_
      refine e_goto q_120 rfl ?_
      refine e_zreturn q_120 rfl rfl (by decide) ?_
      show Ev S (d + 2) 146 3 [some (.inr (some 60)), some (.inl x1), some (.inl 7), some (.inl x2)] [.inl 1] σ _
      refine e_if (P := (1 : Int32) = 0) q_146 rfl m_c0 (fun c => absurd c (by decide)) (fun _ => ?_)
      refine e_load q_146 rfl rfl rfl ?_
      refine e_push q_146 rfl ?_
      refine e_icmp (P := x2 = (-1)) q_146 rfl m_c0 (fun c => ?_) (fun c => ?_)
      · replace h := h.1 c
        refine e_load q_146 rfl rfl rfl ?_
        refine e_load q_146 rfl rfl rfl ?_
        refine e_virt q_146 rfl rfl (Nat.le_of_ble_eq_true rfl) rfl rfl (Nat.le_of_ble_eq_true rfl) rfl ?_
        show Ev S (d + 1) 124 0 [some (.inr (some 60)), some (.inl x1)] [] σ _
        refine e_load q_124 rfl rfl rfl ?_
        refine e_load q_124 rfl rfl rfl ?_
        refine e_push q_124 rfl ?_
        refine e_virt q_124 rfl rfl (Nat.le_of_ble_eq_true rfl) rfl rfl (Nat.le_of_ble_eq_true rfl) rfl ?_
        show Ev S d 122 0 [some (.inr (some 60)), some (.inl x1), some (.inl 0)] [] σ _
        refine e_load q_122 rfl rfl rfl ?_
        refine e_getR q_122 rfl rfl rfl ?_
        refine e_push q_122 rfl ?_
        refine e_push q_122 rfl ?_
        refine e_load q_122 rfl rfl rfl ?_
        refine e_bin (r := 9 * x1) q_122 rfl rfl ?_
        refine e_bin (r := 1 + (9 * x1)) q_122 rfl rfl ?_
        refine e_load q_122 rfl rfl rfl ?_
        refine e_bin (r := (1 + (9 * x1)) + 0) q_122 rfl rfl ?_
        obtain ⟨j2, hjj2, hlj2, h⟩ := h
        refine e_iald q_122 rfl rfl (by decide) hjj2 hlj2 ?_
        refine e_ireturn q_122 rfl rfl ?_
        show Ev S (d + 1) 124 4 [some (.inr (some 60)), some (.inl x1)] [.inl (σ 61 j2)] σ _
        refine e_push q_124 rfl ?_
        refine e_icmp (P := ¬ (σ 61 j2) = 2) q_124 rfl m_c1 (fun c => ?_) (fun c => ?_)
        · replace h := h.1 c
          refine e_push q_124 rfl ?_
          refine e_zreturn q_124 rfl rfl (by decide) ?_
          show Ev S (d + 2) 146 17 [some (.inr (some 60)), some (.inl x1), some (.inl 7), some (.inl x2)] [.inl 0] σ _
          refine e_if (P := (0 : Int32) = 0) q_146 rfl m_c0 (fun _ => ?_) (fun c => absurd (by decide) c)
          refine e_load q_146 rfl rfl rfl ?_
          refine e_load q_146 rfl rfl rfl ?_
          refine e_load q_146 rfl rfl rfl ?_
          refine e_load q_146 rfl rfl rfl ?_
          refine e_virt q_146 rfl rfl (Nat.le_of_ble_eq_true rfl) rfl rfl (Nat.le_of_ble_eq_true rfl) rfl ?_
          show Ev S (d + 1) 132 0 [some (.inr (some 60)), some (.inl x1), some (.inl 7), some (.inl x2), none] [] σ _
          refine e_load q_132 rfl rfl rfl ?_
          exact e_virt q_132 rfl rfl (Nat.le_of_ble_eq_true rfl) rfl rfl (Nat.le_of_ble_eq_true rfl) rfl h
        · replace h := h.2 c
          refine e_push q_124 rfl ?_
          refine e_goto q_124 rfl ?_
          refine e_zreturn q_124 rfl rfl (by decide) ?_
          show Ev S (d + 2) 146 17 [some (.inr (some 60)), some (.inl x1), some (.inl 7), some (.inl x2)] [.inl 1] σ _
          refine e_if (P := (1 : Int32) = 0) q_146 rfl m_c0 (fun c => absurd c (by decide)) (fun _ => ?_)
          refine e_load q_146 rfl rfl rfl ?_
          refine e_push q_146 rfl ?_
          refine e_virt q_146 rfl rfl (Nat.le_of_ble_eq_true rfl) rfl rfl (Nat.le_of_ble_eq_true rfl) rfl ?_
          show Ev S (d + 1) 118 0 [some (.inr (some 60)), some (.inl (-100004))] [] σ _
          refine e_load q_118 rfl rfl rfl ?_
          refine e_dup q_118 rfl ?_
          refine e_getI q_118 rfl rfl rfl ?_
          refine e_push q_118 rfl ?_
          refine e_bin (r := (σ 60 6) + 1) q_118 rfl rfl ?_
          refine e_putI q_118 rfl rfl rfl ?_
          refine e_load q_118 rfl rfl rfl ?_
          refine e_ireturn q_118 rfl rfl ?_
          show Ev S (d + 2) 146 21 [some (.inr (some 60)), some (.inl x1), some (.inl 7), some (.inl x2)] [.inl (-100004)] (up σ 60 6 ((σ 60 6) + 1)) _
          refine e_goto q_146 rfl ?_
          refine e_ireturn q_146 rfl rfl ?_
          show Ev S (d + 3) 148 5 [some (.inr (some 60)), some (.inl x1), some (.inl x2)] [.inl (-100004)] (up σ 60 6 ((σ 60 6) + 1)) _
          exact e_ireturn q_148 rfl rfl h
      · replace h := h.2 c
        refine e_load q_146 rfl rfl rfl ?_
        refine e_stat q_146 rfl (Nat.le_of_ble_eq_true rfl) rfl rfl (Nat.le_of_ble_eq_true rfl) ?_
        show Ev S (d + 1) 121 0 [some (.inl x2)] [] σ _
        refine e_load q_121 rfl rfl rfl ?_
        refine e_push q_121 rfl ?_
        refine e_push q_121 rfl ?_
        refine e_stat q_121 rfl (Nat.le_of_ble_eq_true rfl) rfl rfl (Nat.le_of_ble_eq_true rfl) ?_
        show Ev S d 119 0 [some (.inl x2), some (.inl 0), some (.inl 5)] [] σ _
        refine e_load q_119 rfl rfl rfl ?_
        refine e_load q_119 rfl rfl rfl ?_
        refine e_icmp (P := x2 < 0) q_119 rfl m_c2 (fun c => ?_) (fun c => ?_)
        · replace h := h.1 c
          refine e_push q_119 rfl ?_
          refine e_zreturn q_119 rfl rfl (by decide) ?_
          show Ev S (d + 1) 121 4 [some (.inl x2)] [.inl 0] σ _
          refine e_zreturn q_121 rfl rfl (by decide) ?_
          show Ev S (d + 2) 146 9 [some (.inr (some 60)), some (.inl x1), some (.inl 7), some (.inl x2)] [.inl 0] σ _
          refine e_if (P := ¬ (0 : Int32) = 0) q_146 rfl m_c1 (fun c => absurd c (by decide)) (fun _ => ?_)
          refine e_load q_146 rfl rfl rfl ?_
          refine e_push q_146 rfl ?_
          refine e_virt q_146 rfl rfl (Nat.le_of_ble_eq_true rfl) rfl rfl (Nat.le_of_ble_eq_true rfl) rfl ?_
          show Ev S (d + 1) 118 0 [some (.inr (some 60)), some (.inl (-100001))] [] σ _
          refine e_load q_118 rfl rfl rfl ?_
          refine e_dup q_118 rfl ?_
          refine e_getI q_118 rfl rfl rfl ?_
          refine e_push q_118 rfl ?_
          refine e_bin (r := (σ 60 6) + 1) q_118 rfl rfl ?_
          refine e_putI q_118 rfl rfl rfl ?_
          refine e_load q_118 rfl rfl rfl ?_
          refine e_ireturn q_118 rfl rfl ?_
          show Ev S (d + 2) 146 13 [some (.inr (some 60)), some (.inl x1), some (.inl 7), some (.inl x2)] [.inl (-100001)] (up σ 60 6 ((σ 60 6) + 1)) _
          refine e_ireturn q_146 rfl rfl ?_
          show Ev S (d + 3) 148 5 [some (.inr (some 60)), some (.inl x1), some (.inl x2)] [.inl (-100001)] (up σ 60 6 ((σ 60 6) + 1)) _
          exact e_ireturn q_148 rfl rfl h
        · replace h := h.2 c
          refine e_load q_119 rfl rfl rfl ?_
          refine e_load q_119 rfl rfl rfl ?_
          refine e_icmp (P := 5 < x2) q_119 rfl m_c4 (fun c => ?_) (fun c => ?_)
          · replace h := h.1 c
            refine e_push q_119 rfl ?_
            refine e_zreturn q_119 rfl rfl (by decide) ?_
            show Ev S (d + 1) 121 4 [some (.inl x2)] [.inl 0] σ _
            refine e_zreturn q_121 rfl rfl (by decide) ?_
            show Ev S (d + 2) 146 9 [some (.inr (some 60)), some (.inl x1), some (.inl 7), some (.inl x2)] [.inl 0] σ _
            refine e_if (P := ¬ (0 : Int32) = 0) q_146 rfl m_c1 (fun c => absurd c (by decide)) (fun _ => ?_)
            refine e_load q_146 rfl rfl rfl ?_
            refine e_push q_146 rfl ?_
            refine e_virt q_146 rfl rfl (Nat.le_of_ble_eq_true rfl) rfl rfl (Nat.le_of_ble_eq_true rfl) rfl ?_
            show Ev S (d + 1) 118 0 [some (.inr (some 60)), some (.inl (-100001))] [] σ _
            refine e_load q_118 rfl rfl rfl ?_
            refine e_dup q_118 rfl ?_
            refine e_getI q_118 rfl rfl rfl ?_
            refine e_push q_118 rfl ?_
            refine e_bin (r := (σ 60 6) + 1) q_118 rfl rfl ?_
            refine e_putI q_118 rfl rfl rfl ?_
            refine e_load q_118 rfl rfl rfl ?_
            refine e_ireturn q_118 rfl rfl ?_
            show Ev S (d + 2) 146 13 [some (.inr (some 60)), some (.inl x1), some (.inl 7), some (.inl x2)] [.inl (-100001)] (up σ 60 6 ((σ 60 6) + 1)) _
            refine e_ireturn q_146 rfl rfl ?_
            show Ev S (d + 3) 148 5 [some (.inr (some 60)), some (.inl x1), some (.inl x2)] [.inl (-100001)] (up σ 60 6 ((σ 60 6) + 1)) _
            exact e_ireturn q_148 rfl rfl h
          · replace h := h.2 c
            refine e_push q_119 rfl ?_
            refine e_goto q_119 rfl ?_
            refine e_zreturn q_119 rfl rfl (by decide) ?_
            show Ev S (d + 1) 121 4 [some (.inl x2)] [.inl 1] σ _
            refine e_zreturn q_121 rfl rfl (by decide) ?_
            show Ev S (d + 2) 146 9 [some (.inr (some 60)), some (.inl x1), some (.inl 7), some (.inl x2)] [.inl 1] σ _
            refine e_if (P := ¬ (1 : Int32) = 0) q_146 rfl m_c1 (fun _ => ?_) (fun c => absurd (by decide) c)
            refine e_load q_146 rfl rfl rfl ?_
            refine e_load q_146 rfl rfl rfl ?_
            refine e_virt q_146 rfl rfl (Nat.le_of_ble_eq_true rfl) rfl rfl (Nat.le_of_ble_eq_true rfl) rfl ?_
            show Ev S (d + 1) 124 0 [some (.inr (some 60)), some (.inl x1)] [] σ _
            refine e_load q_124 rfl rfl rfl ?_
            refine e_load q_124 rfl rfl rfl ?_
            refine e_push q_124 rfl ?_
            refine e_virt q_124 rfl rfl (Nat.le_of_ble_eq_true rfl) rfl rfl (Nat.le_of_ble_eq_true rfl) rfl ?_
            show Ev S d 122 0 [some (.inr (some 60)), some (.inl x1), some (.inl 0)] [] σ _
            refine e_load q_122 rfl rfl rfl ?_
            refine e_getR q_122 rfl rfl rfl ?_
            refine e_push q_122 rfl ?_
            refine e_push q_122 rfl ?_
            refine e_load q_122 rfl rfl rfl ?_
            refine e_bin (r := 9 * x1) q_122 rfl rfl ?_
            refine e_bin (r := 1 + (9 * x1)) q_122 rfl rfl ?_
            refine e_load q_122 rfl rfl rfl ?_
            refine e_bin (r := (1 + (9 * x1)) + 0) q_122 rfl rfl ?_
            obtain ⟨j3, hjj3, hlj3, h⟩ := h
            refine e_iald q_122 rfl rfl (by decide) hjj3 hlj3 ?_
            refine e_ireturn q_122 rfl rfl ?_
            show Ev S (d + 1) 124 4 [some (.inr (some 60)), some (.inl x1)] [.inl (σ 61 j3)] σ _
            refine e_push q_124 rfl ?_
            refine e_icmp (P := ¬ (σ 61 j3) = 2) q_124 rfl m_c1 (fun c => ?_) (fun c => ?_)
            · replace h := h.1 c
              refine e_push q_124 rfl ?_
              refine e_zreturn q_124 rfl rfl (by decide) ?_
              show Ev S (d + 2) 146 17 [some (.inr (some 60)), some (.inl x1), some (.inl 7), some (.inl x2)] [.inl 0] σ _
              refine e_if (P := (0 : Int32) = 0) q_146 rfl m_c0 (fun _ => ?_) (fun c => absurd (by decide) c)
              refine e_load q_146 rfl rfl rfl ?_
              refine e_load q_146 rfl rfl rfl ?_
              refine e_load q_146 rfl rfl rfl ?_
              refine e_load q_146 rfl rfl rfl ?_
              refine e_virt q_146 rfl rfl (Nat.le_of_ble_eq_true rfl) rfl rfl (Nat.le_of_ble_eq_true rfl) rfl ?_
              show Ev S (d + 1) 132 0 [some (.inr (some 60)), some (.inl x1), some (.inl 7), some (.inl x2), none] [] σ _
              refine e_load q_132 rfl rfl rfl ?_
              exact e_virt q_132 rfl rfl (Nat.le_of_ble_eq_true rfl) rfl rfl (Nat.le_of_ble_eq_true rfl) rfl h
            · replace h := h.2 c
              refine e_push q_124 rfl ?_
              refine e_goto q_124 rfl ?_
              refine e_zreturn q_124 rfl rfl (by decide) ?_
              show Ev S (d + 2) 146 17 [some (.inr (some 60)), some (.inl x1), some (.inl 7), some (.inl x2)] [.inl 1] σ _
              refine e_if (P := (1 : Int32) = 0) q_146 rfl m_c0 (fun c => absurd c (by decide)) (fun _ => ?_)
              refine e_load q_146 rfl rfl rfl ?_
              refine e_push q_146 rfl ?_
              refine e_virt q_146 rfl rfl (Nat.le_of_ble_eq_true rfl) rfl rfl (Nat.le_of_ble_eq_true rfl) rfl ?_
              show Ev S (d + 1) 118 0 [some (.inr (some 60)), some (.inl (-100004))] [] σ _
              refine e_load q_118 rfl rfl rfl ?_
              refine e_dup q_118 rfl ?_
              refine e_getI q_118 rfl rfl rfl ?_
              refine e_push q_118 rfl ?_
              refine e_bin (r := (σ 60 6) + 1) q_118 rfl rfl ?_
              refine e_putI q_118 rfl rfl rfl ?_
              refine e_load q_118 rfl rfl rfl ?_
              refine e_ireturn q_118 rfl rfl ?_
              show Ev S (d + 2) 146 21 [some (.inr (some 60)), some (.inl x1), some (.inl 7), some (.inl x2)] [.inl (-100004)] (up σ 60 6 ((σ 60 6) + 1)) _
              refine e_goto q_146 rfl ?_
              refine e_ireturn q_146 rfl rfl ?_
              show Ev S (d + 3) 148 5 [some (.inr (some 60)), some (.inl x1), some (.inl x2)] [.inl (-100004)] (up σ 60 6 ((σ 60 6) + 1)) _
              exact e_ireturn q_148 rfl rfl h
theorem g_148_5 {S : Nat × (Nat → Int32)} {d : Nat} {σ : Mem} {Q : MQ1} {o0 : Option MV} {o1 : Option MV} {o2 : Option MV} {y0 : Int32}  (h : Q [.inl y0] σ) : Ev S (d + 3) 148 5 [o0, o1, o2] [.inl y0] σ Q := by
  exact e_ireturn q_148 rfl rfl h
theorem g_149_0 {S : Nat × (Nat → Int32)} {d : Nat} {σ : Mem} {Q : MQ1} {x1 : Int32}  (h : Ev S (d + 2) 149 4 [some (.inr (some 60)), some (.inl x1), some (.inl 0), some (.inl 0)] [] σ Q) : Ev S (d + 2) 149 0 [some (.inr (some 60)), some (.inl x1), none, none] [] σ Q := by
  refine e_push q_149 rfl ?_
  refine e_store (ls' := [some (.inr (some 60)), some (.inl x1), some (.inl 0), none]) q_149 rfl (Nat.le_of_ble_eq_true rfl) rfl rfl ?_
  refine e_push q_149 rfl ?_
  refine e_store (ls' := [some (.inr (some 60)), some (.inl x1), some (.inl 0), some (.inl 0)]) q_149 rfl (Nat.le_of_ble_eq_true rfl) rfl rfl ?_
  exact h
theorem g_149_4 {S : Nat × (Nat → Int32)} {d : Nat} {σ : Mem} {Q : MQ1} {x1 : Int32} {x2 : Int32} {x3 : Int32}  (h : (((σ 61 0) ≤ x3 → Q [.inl x2] σ) ∧ (¬ ((σ 61 0) ≤ x3) → (∃ j2 : Nat, (1 + (9 * x3)) + 0 = nI j2 ∧ j2 < 86 ∧ (((¬ (σ 61 j2) = 2) → (∃ j3 : Nat, (1 + (9 * x3)) + 6 = nI j3 ∧ j3 < 86 ∧ (((¬ (σ 61 j3) = x1) → (∃ j4 : Nat, (1 + (9 * x3)) + 7 = nI j4 ∧ j4 < 86 ∧ (((¬ (σ 61 j4) = x1) → Ev S (d + 2) 149 4 [some (.inr (some 60)), some (.inl x1), some (.inl ((x2 + 0) + 0)), some (.inl (x3 + 1))] [] σ Q) ∧ (¬ (¬ (σ 61 j4) = x1) → Ev S (d + 2) 149 4 [some (.inr (some 60)), some (.inl x1), some (.inl ((x2 + 0) + 1)), some (.inl (x3 + 1))] [] σ Q)))) ∧ (¬ (¬ (σ 61 j3) = x1) → (∃ j5 : Nat, (1 + (9 * x3)) + 1 = nI j5 ∧ j5 < 86 ∧ (∃ j6 : Nat, (1 + (9 * x3)) + 7 = nI j6 ∧ j6 < 86 ∧ (((¬ (σ 61 j6) = x1) → Ev S (d + 2) 149 4 [some (.inr (some 60)), some (.inl x1), some (.inl ((x2 + (σ 61 j5)) + 0)), some (.inl (x3 + 1))] [] σ Q) ∧ (¬ (¬ (σ 61 j6) = x1) → Ev S (d + 2) 149 4 [some (.inr (some 60)), some (.inl x1), some (.inl ((x2 + (σ 61 j5)) + 1)), some (.inl (x3 + 1))] [] σ Q)))))))) ∧ (¬ (¬ (σ 61 j2) = 2) → (∃ j7 : Nat, 79 + x1 = nI j7 ∧ j7 < 86 ∧ (((¬ (σ 61 j7) = 1) → Ev S (d + 2) 149 4 [some (.inr (some 60)), some (.inl x1), some (.inl (x2 + 1)), some (.inl (x3 + 1))] [] σ Q) ∧ (¬ (¬ (σ 61 j7) = 1) → Ev S (d + 2) 149 4 [some (.inr (some 60)), some (.inl x1), some (.inl (x2 + 0)), some (.inl (x3 + 1))] [] σ Q))))))))) : Ev S (d + 2) 149 4 [some (.inr (some 60)), some (.inl x1), some (.inl x2), some (.inl x3)] [] σ Q := by
  refine e_load q_149 rfl rfl rfl ?_
  refine e_load q_149 rfl rfl rfl ?_
  refine e_getR q_149 rfl rfl rfl ?_
  refine e_push q_149 rfl ?_
  refine e_iald (j := 0) q_149 rfl rfl (by decide) (by decide +kernel) (by decide) ?_
  refine e_icmp (P := (σ 61 0) ≤ x3) q_149 rfl m_c3 (fun c => ?_) (fun c => ?_)
  · replace h := h.1 c
    refine e_load q_149 rfl rfl rfl ?_
    exact e_ireturn q_149 rfl rfl h
  · replace h := h.2 c
    refine e_load q_149 rfl rfl rfl ?_
    refine e_load q_149 rfl rfl rfl ?_
    refine e_virt q_149 rfl rfl (Nat.le_of_ble_eq_true rfl) rfl rfl (Nat.le_of_ble_eq_true rfl) rfl ?_
    show Ev S (d + 1) 124 0 [some (.inr (some 60)), some (.inl x3)] [] σ _
    refine e_load q_124 rfl rfl rfl ?_
    refine e_load q_124 rfl rfl rfl ?_
    refine e_push q_124 rfl ?_
    refine e_virt q_124 rfl rfl (Nat.le_of_ble_eq_true rfl) rfl rfl (Nat.le_of_ble_eq_true rfl) rfl ?_
    show Ev S d 122 0 [some (.inr (some 60)), some (.inl x3), some (.inl 0)] [] σ _
    refine e_load q_122 rfl rfl rfl ?_
    refine e_getR q_122 rfl rfl rfl ?_
    refine e_push q_122 rfl ?_
    refine e_push q_122 rfl ?_
    refine e_load q_122 rfl rfl rfl ?_
    refine e_bin (r := 9 * x3) q_122 rfl rfl ?_
    refine e_bin (r := 1 + (9 * x3)) q_122 rfl rfl ?_
    refine e_load q_122 rfl rfl rfl ?_
    refine e_bin (r := (1 + (9 * x3)) + 0) q_122 rfl rfl ?_
    obtain ⟨j2, hjj2, hlj2, h⟩ := h
    refine e_iald q_122 rfl rfl (by decide) hjj2 hlj2 ?_
    refine e_ireturn q_122 rfl rfl ?_
    show Ev S (d + 1) 124 4 [some (.inr (some 60)), some (.inl x3)] [.inl (σ 61 j2)] σ _
    refine e_push q_124 rfl ?_
    refine e_icmp (P := ¬ (σ 61 j2) = 2) q_124 rfl m_c1 (fun c => ?_) (fun c => ?_)
    · replace h := h.1 c
      refine e_push q_124 rfl ?_
      refine e_zreturn q_124 rfl rfl (by decide) ?_
      show Ev S (d + 2) 149 13 [some (.inr (some 60)), some (.inl x1), some (.inl x2), some (.inl x3)] [.inl 0] σ _
      refine e_if (P := (0 : Int32) = 0) q_149 rfl m_c0 (fun _ => ?_) (fun c => absurd (by decide) c)
      refine e_load q_149 rfl rfl rfl ?_
      refine e_load q_149 rfl rfl rfl ?_
      refine e_load q_149 rfl rfl rfl ?_
      refine e_push q_149 rfl ?_
      refine e_virt q_149 rfl rfl (Nat.le_of_ble_eq_true rfl) rfl rfl (Nat.le_of_ble_eq_true rfl) rfl ?_
      show Ev S (d + 1) 122 0 [some (.inr (some 60)), some (.inl x3), some (.inl 6)] [] σ _
      refine e_load q_122 rfl rfl rfl ?_
      refine e_getR q_122 rfl rfl rfl ?_
      refine e_push q_122 rfl ?_
      refine e_push q_122 rfl ?_
      refine e_load q_122 rfl rfl rfl ?_
      refine e_bin (r := 9 * x3) q_122 rfl rfl ?_
      refine e_bin (r := 1 + (9 * x3)) q_122 rfl rfl ?_
      refine e_load q_122 rfl rfl rfl ?_
      refine e_bin (r := (1 + (9 * x3)) + 6) q_122 rfl rfl ?_
      obtain ⟨j3, hjj3, hlj3, h⟩ := h
      refine e_iald q_122 rfl rfl (by decide) hjj3 hlj3 ?_
      refine e_ireturn q_122 rfl rfl ?_
      show Ev S (d + 2) 149 30 [some (.inr (some 60)), some (.inl x1), some (.inl x2), some (.inl x3)] [.inl (σ 61 j3), .inl x2] σ _
      refine e_load q_149 rfl rfl rfl ?_
      refine e_icmp (P := ¬ (σ 61 j3) = x1) q_149 rfl m_c1 (fun c => ?_) (fun c => ?_)
      · replace h := h.1 c
        refine e_push q_149 rfl ?_
        refine e_bin (r := x2 + 0) q_149 rfl rfl ?_
        refine e_store (ls' := [some (.inr (some 60)), some (.inl x1), some (.inl (x2 + 0)), some (.inl x3)]) q_149 rfl (Nat.le_of_ble_eq_true rfl) rfl rfl ?_
        refine e_load q_149 rfl rfl rfl ?_
        refine e_load q_149 rfl rfl rfl ?_
        refine e_load q_149 rfl rfl rfl ?_
        refine e_push q_149 rfl ?_
        refine e_virt q_149 rfl rfl (Nat.le_of_ble_eq_true rfl) rfl rfl (Nat.le_of_ble_eq_true rfl) rfl ?_
        show Ev S (d + 1) 122 0 [some (.inr (some 60)), some (.inl x3), some (.inl 7)] [] σ _
        refine e_load q_122 rfl rfl rfl ?_
        refine e_getR q_122 rfl rfl rfl ?_
        refine e_push q_122 rfl ?_
        refine e_push q_122 rfl ?_
        refine e_load q_122 rfl rfl rfl ?_
        refine e_bin (r := 9 * x3) q_122 rfl rfl ?_
        refine e_bin (r := 1 + (9 * x3)) q_122 rfl rfl ?_
        refine e_load q_122 rfl rfl rfl ?_
        refine e_bin (r := (1 + (9 * x3)) + 7) q_122 rfl rfl ?_
        obtain ⟨j4, hjj4, hlj4, h⟩ := h
        refine e_iald q_122 rfl rfl (by decide) hjj4 hlj4 ?_
        refine e_ireturn q_122 rfl rfl ?_
        show Ev S (d + 2) 149 45 [some (.inr (some 60)), some (.inl x1), some (.inl (x2 + 0)), some (.inl x3)] [.inl (σ 61 j4), .inl (x2 + 0)] σ _
        refine e_load q_149 rfl rfl rfl ?_
        refine e_icmp (P := ¬ (σ 61 j4) = x1) q_149 rfl m_c1 (fun c => ?_) (fun c => ?_)
        · replace h := h.1 c
          refine e_push q_149 rfl ?_
          refine e_bin (r := (x2 + 0) + 0) q_149 rfl rfl ?_
          refine e_store (ls' := [some (.inr (some 60)), some (.inl x1), some (.inl ((x2 + 0) + 0)), some (.inl x3)]) q_149 rfl (Nat.le_of_ble_eq_true rfl) rfl rfl ?_
          refine e_iinc (ls' := [some (.inr (some 60)), some (.inl x1), some (.inl ((x2 + 0) + 0)), some (.inl (x3 + 1))]) q_149 rfl rfl rfl ?_
          refine e_goto q_149 rfl ?_
          exact h
        · replace h := h.2 c
          refine e_push q_149 rfl ?_
          refine e_goto q_149 rfl ?_
          refine e_bin (r := (x2 + 0) + 1) q_149 rfl rfl ?_
          refine e_store (ls' := [some (.inr (some 60)), some (.inl x1), some (.inl ((x2 + 0) + 1)), some (.inl x3)]) q_149 rfl (Nat.le_of_ble_eq_true rfl) rfl rfl ?_
          refine e_iinc (ls' := [some (.inr (some 60)), some (.inl x1), some (.inl ((x2 + 0) + 1)), some (.inl (x3 + 1))]) q_149 rfl rfl rfl ?_
          refine e_goto q_149 rfl ?_
          exact h
      · replace h := h.2 c
        refine e_load q_149 rfl rfl rfl ?_
        refine e_load q_149 rfl rfl rfl ?_
        refine e_push q_149 rfl ?_
        refine e_virt q_149 rfl rfl (Nat.le_of_ble_eq_true rfl) rfl rfl (Nat.le_of_ble_eq_true rfl) rfl ?_
        show Ev S (d + 1) 122 0 [some (.inr (some 60)), some (.inl x3), some (.inl 1)] [] σ _
        refine e_load q_122 rfl rfl rfl ?_
        refine e_getR q_122 rfl rfl rfl ?_
        refine e_push q_122 rfl ?_
        refine e_push q_122 rfl ?_
        refine e_load q_122 rfl rfl rfl ?_
        refine e_bin (r := 9 * x3) q_122 rfl rfl ?_
        refine e_bin (r := 1 + (9 * x3)) q_122 rfl rfl ?_
        refine e_load q_122 rfl rfl rfl ?_
        refine e_bin (r := (1 + (9 * x3)) + 1) q_122 rfl rfl ?_
        obtain ⟨j5, hjj5, hlj5, h⟩ := h
        refine e_iald q_122 rfl rfl (by decide) hjj5 hlj5 ?_
        refine e_ireturn q_122 rfl rfl ?_
        show Ev S (d + 2) 149 36 [some (.inr (some 60)), some (.inl x1), some (.inl x2), some (.inl x3)] [.inl (σ 61 j5), .inl x2] σ _
        refine e_goto q_149 rfl ?_
        refine e_bin (r := x2 + (σ 61 j5)) q_149 rfl rfl ?_
        refine e_store (ls' := [some (.inr (some 60)), some (.inl x1), some (.inl (x2 + (σ 61 j5))), some (.inl x3)]) q_149 rfl (Nat.le_of_ble_eq_true rfl) rfl rfl ?_
        refine e_load q_149 rfl rfl rfl ?_
        refine e_load q_149 rfl rfl rfl ?_
        refine e_load q_149 rfl rfl rfl ?_
        refine e_push q_149 rfl ?_
        refine e_virt q_149 rfl rfl (Nat.le_of_ble_eq_true rfl) rfl rfl (Nat.le_of_ble_eq_true rfl) rfl ?_
        show Ev S (d + 1) 122 0 [some (.inr (some 60)), some (.inl x3), some (.inl 7)] [] σ _
        refine e_load q_122 rfl rfl rfl ?_
        refine e_getR q_122 rfl rfl rfl ?_
        refine e_push q_122 rfl ?_
        refine e_push q_122 rfl ?_
        refine e_load q_122 rfl rfl rfl ?_
        refine e_bin (r := 9 * x3) q_122 rfl rfl ?_
        refine e_bin (r := 1 + (9 * x3)) q_122 rfl rfl ?_
        refine e_load q_122 rfl rfl rfl ?_
        refine e_bin (r := (1 + (9 * x3)) + 7) q_122 rfl rfl ?_
        obtain ⟨j6, hjj6, hlj6, h⟩ := h
        refine e_iald q_122 rfl rfl (by decide) hjj6 hlj6 ?_
        refine e_ireturn q_122 rfl rfl ?_
        show Ev S (d + 2) 149 45 [some (.inr (some 60)), some (.inl x1), some (.inl (x2 + (σ 61 j5))), some (.inl x3)] [.inl (σ 61 j6), .inl (x2 + (σ 61 j5))] σ _
        refine e_load q_149 rfl rfl rfl ?_
        refine e_icmp (P := ¬ (σ 61 j6) = x1) q_149 rfl m_c1 (fun c => ?_) (fun c => ?_)
        · replace h := h.1 c
          refine e_push q_149 rfl ?_
          refine e_bin (r := (x2 + (σ 61 j5)) + 0) q_149 rfl rfl ?_
          refine e_store (ls' := [some (.inr (some 60)), some (.inl x1), some (.inl ((x2 + (σ 61 j5)) + 0)), some (.inl x3)]) q_149 rfl (Nat.le_of_ble_eq_true rfl) rfl rfl ?_
          refine e_iinc (ls' := [some (.inr (some 60)), some (.inl x1), some (.inl ((x2 + (σ 61 j5)) + 0)), some (.inl (x3 + 1))]) q_149 rfl rfl rfl ?_
          refine e_goto q_149 rfl ?_
          exact h
        · replace h := h.2 c
          refine e_push q_149 rfl ?_
          refine e_goto q_149 rfl ?_
          refine e_bin (r := (x2 + (σ 61 j5)) + 1) q_149 rfl rfl ?_
          refine e_store (ls' := [some (.inr (some 60)), some (.inl x1), some (.inl ((x2 + (σ 61 j5)) + 1)), some (.inl x3)]) q_149 rfl (Nat.le_of_ble_eq_true rfl) rfl rfl ?_
          refine e_iinc (ls' := [some (.inr (some 60)), some (.inl x1), some (.inl ((x2 + (σ 61 j5)) + 1)), some (.inl (x3 + 1))]) q_149 rfl rfl rfl ?_
          refine e_goto q_149 rfl ?_
          exact h
    · replace h := h.2 c
      refine e_push q_124 rfl ?_
      refine e_goto q_124 rfl ?_
      refine e_zreturn q_124 rfl rfl (by decide) ?_
      show Ev S (d + 2) 149 13 [some (.inr (some 60)), some (.inl x1), some (.inl x2), some (.inl x3)] [.inl 1] σ _
      refine e_if (P := (1 : Int32) = 0) q_149 rfl m_c0 (fun c => absurd c (by decide)) (fun _ => ?_)
      refine e_load q_149 rfl rfl rfl ?_
      refine e_load q_149 rfl rfl rfl ?_
      refine e_load q_149 rfl rfl rfl ?_
      refine e_virt q_149 rfl rfl (Nat.le_of_ble_eq_true rfl) rfl rfl (Nat.le_of_ble_eq_true rfl) rfl ?_
      show Ev S (d + 1) 125 0 [some (.inr (some 60)), some (.inl x1)] [] σ _
      refine e_load q_125 rfl rfl rfl ?_
      refine e_getR q_125 rfl rfl rfl ?_
      refine e_push q_125 rfl ?_
      refine e_load q_125 rfl rfl rfl ?_
      refine e_bin (r := 79 + x1) q_125 rfl rfl ?_
      obtain ⟨j7, hjj7, hlj7, h⟩ := h
      refine e_iald q_125 rfl rfl (by decide) hjj7 hlj7 ?_
      refine e_push q_125 rfl ?_
      refine e_icmp (P := ¬ (σ 61 j7) = 1) q_125 rfl m_c1 (fun c => ?_) (fun c => ?_)
      · replace h := h.1 c
        refine e_push q_125 rfl ?_
        refine e_zreturn q_125 rfl rfl (by decide) ?_
        show Ev S (d + 2) 149 18 [some (.inr (some 60)), some (.inl x1), some (.inl x2), some (.inl x3)] [.inl 0, .inl x2] σ _
        refine e_if (P := (0 : Int32) = 0) q_149 rfl m_c0 (fun _ => ?_) (fun c => absurd (by decide) c)
        refine e_push q_149 rfl ?_
        refine e_bin (r := x2 + 1) q_149 rfl rfl ?_
        refine e_store (ls' := [some (.inr (some 60)), some (.inl x1), some (.inl (x2 + 1)), some (.inl x3)]) q_149 rfl (Nat.le_of_ble_eq_true rfl) rfl rfl ?_
        refine e_goto q_149 rfl ?_
        refine e_iinc (ls' := [some (.inr (some 60)), some (.inl x1), some (.inl (x2 + 1)), some (.inl (x3 + 1))]) q_149 rfl rfl rfl ?_
        refine e_goto q_149 rfl ?_
        exact h
      · replace h := h.2 c
        refine e_push q_125 rfl ?_
        refine e_goto q_125 rfl ?_
        refine e_zreturn q_125 rfl rfl (by decide) ?_
        show Ev S (d + 2) 149 18 [some (.inr (some 60)), some (.inl x1), some (.inl x2), some (.inl x3)] [.inl 1, .inl x2] σ _
        refine e_if (P := (1 : Int32) = 0) q_149 rfl m_c0 (fun c => absurd c (by decide)) (fun _ => ?_)
        refine e_push q_149 rfl ?_
        refine e_goto q_149 rfl ?_
        refine e_bin (r := x2 + 0) q_149 rfl rfl ?_
        refine e_store (ls' := [some (.inr (some 60)), some (.inl x1), some (.inl (x2 + 0)), some (.inl x3)]) q_149 rfl (Nat.le_of_ble_eq_true rfl) rfl rfl ?_
        refine e_goto q_149 rfl ?_
        refine e_iinc (ls' := [some (.inr (some 60)), some (.inl x1), some (.inl (x2 + 0)), some (.inl (x3 + 1))]) q_149 rfl rfl rfl ?_
        refine e_goto q_149 rfl ?_
        exact h
theorem g_150_0 {S : Nat × (Nat → Int32)} {d : Nat} {σ : Mem} {Q : MQ1} {x1 : Int32} {x2 : Int32}  (h : (∃ j1 : Nat, (1 + (9 * x2)) + 6 = nI j1 ∧ j1 < 86 ∧ (∃ j2 : Nat, (1 + (9 * x2)) + 7 = nI j2 ∧ j2 < 86 ∧ ((x1 = 1 → (((σ 61 j1) < 0 → Q [.inl 0] σ) ∧ (¬ ((σ 61 j1) < 0) → Q [.inl 1] σ))) ∧ (x1 = 2 → (∃ j3 : Nat, 79 + (σ 61 j1) = nI j3 ∧ j3 < 86 ∧ (((¬ (σ 61 j3) = 1) → Q [.inl 1] σ) ∧ (¬ (¬ (σ 61 j3) = 1) → Q [.inl 0] σ)))) ∧ (x1 = 3 → Ev S (d + 2) 150 30 [some (.inr (some 60)), some (.inl x1), some (.inl x2), some (.inl (σ 61 j1)), some (.inl (σ 61 j2)), some (.inl 1), some (.inl 0), none, none, none] [] σ Q) ∧ (x1 = 4 → (∃ j4 : Nat, (1 + (9 * x2)) + 3 = nI j4 ∧ j4 < 86 ∧ (((¬ (σ 61 j4) = 0) → (((σ 61 j2) < 0 → Q [.inl 0] σ) ∧ (¬ ((σ 61 j2) < 0) → (∃ j5 : Nat, 79 + (σ 61 j2) = nI j5 ∧ j5 < 86 ∧ (((¬ (σ 61 j5) = 1) → ((((σ 61 j2) - (σ 61 j1)) < 1 → Q [.inl 0] σ) ∧ (¬ (((σ 61 j2) - (σ 61 j1)) < 1) → (∃ j6 : Nat, (1 + (9 * x2)) + 3 = nI j6 ∧ j6 < 86 ∧ (((σ 61 j6) < ((σ 61 j2) - (σ 61 j1)) → Q [.inl 0] σ) ∧ (¬ ((σ 61 j6) < ((σ 61 j2) - (σ 61 j1))) → Q [.inl 1] σ)))))) ∧ (¬ (¬ (σ 61 j5) = 1) → Q [.inl 0] σ)))))) ∧ (¬ (¬ (σ 61 j4) = 0) → ((0 ≤ (σ 61 j2) → Q [.inl 0] σ) ∧ (¬ (0 ≤ (σ 61 j2)) → Q [.inl 1] σ)))))) ∧ ((∀ j : Nat, j < 4 → ¬ x1 = 1 + nI j) → (∃ j7 : Nat, (1 + (9 * x2)) + 0 = nI j7 ∧ j7 < 86 ∧ (((σ 61 j7) = 1 → (∃ j8 : Nat, (1 + (9 * x2)) + 0 = nI j8 ∧ j8 < 86 ∧ (((¬ (σ 61 j8) = 3) → (((σ 61 85) ≤ (σ 61 j1) → Q [.inl 0] σ) ∧ (¬ ((σ 61 85) ≤ (σ 61 j1)) → (((σ 61 85) ≤ (σ 61 j2) → Q [.inl 0] σ) ∧ (¬ ((σ 61 85) ≤ (σ 61 j2)) → Q [.inl 1] σ))))) ∧ (¬ (¬ (σ 61 j8) = 3) → (∃ j11 : Nat, (1 + (9 * x2)) + 5 = nI j11 ∧ j11 < 86 ∧ (((σ 61 j11) < 0 → (((σ 61 85) ≤ (σ 61 j1) → Q [.inl 0] σ) ∧ (¬ ((σ 61 85) ≤ (σ 61 j1)) → (((σ 61 85) ≤ (σ 61 j2) → Q [.inl 0] σ) ∧ (¬ ((σ 61 85) ≤ (σ 61 j2)) → Q [.inl 1] σ))))) ∧ (¬ ((σ 61 j11) < 0) → (∃ j14 : Nat, (1 + (9 * (σ 61 j11))) + 0 = nI j14 ∧ j14 < 86 ∧ (((¬ (σ 61 j14) = 2) → (∃ j15 : Nat, (1 + (9 * (σ 61 j11))) + 6 = nI j15 ∧ j15 < 86 ∧ (((¬ (σ 61 j15) = (σ 61 j1)) → (((σ 61 85) ≤ (σ 61 j1) → Q [.inl 0] σ) ∧ (¬ ((σ 61 85) ≤ (σ 61 j1)) → (((σ 61 85) ≤ (σ 61 j2) → Q [.inl 0] σ) ∧ (¬ ((σ 61 85) ≤ (σ 61 j2)) → Q [.inl 0] σ))))) ∧ (¬ (¬ (σ 61 j15) = (σ 61 j1)) → (((σ 61 85) ≤ (σ 61 j1) → Q [.inl 0] σ) ∧ (¬ ((σ 61 85) ≤ (σ 61 j1)) → (((σ 61 85) ≤ (σ 61 j2) → Q [.inl 0] σ) ∧ (¬ ((σ 61 85) ≤ (σ 61 j2)) → Q [.inl 1] σ)))))))) ∧ (¬ (¬ (σ 61 j14) = 2) → (((σ 61 85) ≤ (σ 61 j1) → Q [.inl 0] σ) ∧ (¬ ((σ 61 85) ≤ (σ 61 j1)) → (((σ 61 85) ≤ (σ 61 j2) → Q [.inl 0] σ) ∧ (¬ ((σ 61 85) ≤ (σ 61 j2)) → Q [.inl 1] σ)))))))))))))) ∧ (¬ ((σ 61 j7) = 1) → (∃ j22 : Nat, (1 + (9 * x2)) + 0 = nI j22 ∧ j22 < 86 ∧ (((¬ (σ 61 j22) = 3) → (∃ j23 : Nat, (1 + (9 * x2)) + 0 = nI j23 ∧ j23 < 86 ∧ (((¬ (σ 61 j23) = 3) → Q [.inl 1] σ) ∧ (¬ (¬ (σ 61 j23) = 3) → (∃ j24 : Nat, (1 + (9 * x2)) + 5 = nI j24 ∧ j24 < 86 ∧ (((σ 61 j24) < 0 → Q [.inl 1] σ) ∧ (¬ ((σ 61 j24) < 0) → (∃ j25 : Nat, (1 + (9 * (σ 61 j24))) + 0 = nI j25 ∧ j25 < 86 ∧ (((¬ (σ 61 j25) = 2) → (∃ j26 : Nat, (1 + (9 * (σ 61 j24))) + 6 = nI j26 ∧ j26 < 86 ∧ (((¬ (σ 61 j26) = (σ 61 j1)) → Q [.inl 0] σ) ∧ (¬ (¬ (σ 61 j26) = (σ 61 j1)) → Q [.inl 1] σ)))) ∧ (¬ (¬ (σ 61 j25) = 2) → Q [.inl 1] σ)))))))))) ∧ (¬ (¬ (σ 61 j22) = 3) → (∃ j27 : Nat, (1 + (9 * x2)) + 0 = nI j27 ∧ j27 < 86 ∧ (((¬ (σ 61 j27) = 3) → (((σ 61 85) ≤ (σ 61 j1) → Q [.inl 0] σ) ∧ (¬ ((σ 61 85) ≤ (σ 61 j1)) → (((σ 61 85) ≤ (σ 61 j2) → Q [.inl 0] σ) ∧ (¬ ((σ 61 85) ≤ (σ 61 j2)) → Q [.inl 1] σ))))) ∧ (¬ (¬ (σ 61 j27) = 3) → (∃ j30 : Nat, (1 + (9 * x2)) + 5 = nI j30 ∧ j30 < 86 ∧ (((σ 61 j30) < 0 → (((σ 61 85) ≤ (σ 61 j1) → Q [.inl 0] σ) ∧ (¬ ((σ 61 85) ≤ (σ 61 j1)) → (((σ 61 85) ≤ (σ 61 j2) → Q [.inl 0] σ) ∧ (¬ ((σ 61 85) ≤ (σ 61 j2)) → Q [.inl 1] σ))))) ∧ (¬ ((σ 61 j30) < 0) → (∃ j33 : Nat, (1 + (9 * (σ 61 j30))) + 0 = nI j33 ∧ j33 < 86 ∧ (((¬ (σ 61 j33) = 2) → (∃ j34 : Nat, (1 + (9 * (σ 61 j30))) + 6 = nI j34 ∧ j34 < 86 ∧ (((¬ (σ 61 j34) = (σ 61 j1)) → (((σ 61 85) ≤ (σ 61 j1) → Q [.inl 0] σ) ∧ (¬ ((σ 61 85) ≤ (σ 61 j1)) → (((σ 61 85) ≤ (σ 61 j2) → Q [.inl 0] σ) ∧ (¬ ((σ 61 85) ≤ (σ 61 j2)) → Q [.inl 0] σ))))) ∧ (¬ (¬ (σ 61 j34) = (σ 61 j1)) → (((σ 61 85) ≤ (σ 61 j1) → Q [.inl 0] σ) ∧ (¬ ((σ 61 85) ≤ (σ 61 j1)) → (((σ 61 85) ≤ (σ 61 j2) → Q [.inl 0] σ) ∧ (¬ ((σ 61 85) ≤ (σ 61 j2)) → Q [.inl 1] σ)))))))) ∧ (¬ (¬ (σ 61 j33) = 2) → (((σ 61 85) ≤ (σ 61 j1) → Q [.inl 0] σ) ∧ (¬ ((σ 61 85) ≤ (σ 61 j1)) → (((σ 61 85) ≤ (σ 61 j2) → Q [.inl 0] σ) ∧ (¬ ((σ 61 85) ≤ (σ 61 j2)) → Q [.inl 1] σ)))))))))))))))))))))))) : Ev S (d + 2) 150 0 [some (.inr (some 60)), some (.inl x1), some (.inl x2), none, none, none, none, none, none, none] [] σ Q := by
  refine e_load q_150 rfl rfl rfl ?_
  refine e_load q_150 rfl rfl rfl ?_
  refine e_push q_150 rfl ?_
  refine e_virt q_150 rfl rfl (Nat.le_of_ble_eq_true rfl) rfl rfl (Nat.le_of_ble_eq_true rfl) rfl ?_
  show Ev S (d + 1) 122 0 [some (.inr (some 60)), some (.inl x2), some (.inl 6)] [] σ _
  refine e_load q_122 rfl rfl rfl ?_
  refine e_getR q_122 rfl rfl rfl ?_
  refine e_push q_122 rfl ?_
  refine e_push q_122 rfl ?_
  refine e_load q_122 rfl rfl rfl ?_
  refine e_bin (r := 9 * x2) q_122 rfl rfl ?_
  refine e_bin (r := 1 + (9 * x2)) q_122 rfl rfl ?_
  refine e_load q_122 rfl rfl rfl ?_
  refine e_bin (r := (1 + (9 * x2)) + 6) q_122 rfl rfl ?_
  obtain ⟨j1, hjj1, hlj1, h⟩ := h
  refine e_iald q_122 rfl rfl (by decide) hjj1 hlj1 ?_
  refine e_ireturn q_122 rfl rfl ?_
  show Ev S (d + 2) 150 4 [some (.inr (some 60)), some (.inl x1), some (.inl x2), none, none, none, none, none, none, none] [.inl (σ 61 j1)] σ _
  refine e_store (ls' := [some (.inr (some 60)), some (.inl x1), some (.inl x2), some (.inl (σ 61 j1)), none, none, none, none, none, none]) q_150 rfl (Nat.le_of_ble_eq_true rfl) rfl rfl ?_
  refine e_load q_150 rfl rfl rfl ?_
  refine e_load q_150 rfl rfl rfl ?_
  refine e_push q_150 rfl ?_
  refine e_virt q_150 rfl rfl (Nat.le_of_ble_eq_true rfl) rfl rfl (Nat.le_of_ble_eq_true rfl) rfl ?_
  show Ev S (d + 1) 122 0 [some (.inr (some 60)), some (.inl x2), some (.inl 7)] [] σ _
  refine e_load q_122 rfl rfl rfl ?_
  refine e_getR q_122 rfl rfl rfl ?_
  refine e_push q_122 rfl ?_
  refine e_push q_122 rfl ?_
  refine e_load q_122 rfl rfl rfl ?_
  refine e_bin (r := 9 * x2) q_122 rfl rfl ?_
  refine e_bin (r := 1 + (9 * x2)) q_122 rfl rfl ?_
  refine e_load q_122 rfl rfl rfl ?_
  refine e_bin (r := (1 + (9 * x2)) + 7) q_122 rfl rfl ?_
  obtain ⟨j2, hjj2, hlj2, h⟩ := h
  refine e_iald q_122 rfl rfl (by decide) hjj2 hlj2 ?_
  refine e_ireturn q_122 rfl rfl ?_
  show Ev S (d + 2) 150 9 [some (.inr (some 60)), some (.inl x1), some (.inl x2), some (.inl (σ 61 j1)), none, none, none, none, none, none] [.inl (σ 61 j2)] σ _
  refine e_store (ls' := [some (.inr (some 60)), some (.inl x1), some (.inl x2), some (.inl (σ 61 j1)), some (.inl (σ 61 j2)), none, none, none, none, none]) q_150 rfl (Nat.le_of_ble_eq_true rfl) rfl rfl ?_
  refine e_load q_150 rfl rfl rfl ?_
  refine e_switch q_150 rfl ?_
  rcases m_sw (x := x1) (t := 99) (lo := 1) (ts := [12, 18, 26, 65]) (by decide) (by decide) (by decide) with ⟨j, hj, hl, hx⟩ | ⟨hx, hn⟩
  · match j, hj, hl, hx with
    | 0, hj, hl, hx =>
      rw [show m_swt 99 1 [12, 18, 26, 65] (x1) = 12 from hx]
      replace h := h.1 (hj.trans (by decide +kernel))
      refine e_load q_150 rfl rfl rfl ?_
      refine e_if (P := (σ 61 j1) < 0) q_150 rfl m_c2 (fun c => ?_) (fun c => ?_)
      · replace h := h.1 c
        refine e_push q_150 rfl ?_
        exact e_zreturn q_150 rfl rfl (by decide) h
      · replace h := h.2 c
        refine e_push q_150 rfl ?_
        refine e_goto q_150 rfl ?_
        exact e_zreturn q_150 rfl rfl (by decide) h
    | 1, hj, hl, hx =>
      rw [show m_swt 99 1 [12, 18, 26, 65] (x1) = 18 from hx]
      replace h := h.2.1 (hj.trans (by decide +kernel))
      refine e_load q_150 rfl rfl rfl ?_
      refine e_load q_150 rfl rfl rfl ?_
      refine e_virt q_150 rfl rfl (Nat.le_of_ble_eq_true rfl) rfl rfl (Nat.le_of_ble_eq_true rfl) rfl ?_
      show Ev S (d + 1) 125 0 [some (.inr (some 60)), some (.inl (σ 61 j1))] [] σ _
      refine e_load q_125 rfl rfl rfl ?_
      refine e_getR q_125 rfl rfl rfl ?_
      refine e_push q_125 rfl ?_
      refine e_load q_125 rfl rfl rfl ?_
      refine e_bin (r := 79 + (σ 61 j1)) q_125 rfl rfl ?_
      obtain ⟨j3, hjj3, hlj3, h⟩ := h
      refine e_iald q_125 rfl rfl (by decide) hjj3 hlj3 ?_
      refine e_push q_125 rfl ?_
      refine e_icmp (P := ¬ (σ 61 j3) = 1) q_125 rfl m_c1 (fun c => ?_) (fun c => ?_)
      · replace h := h.1 c
        refine e_push q_125 rfl ?_
        refine e_zreturn q_125 rfl rfl (by decide) ?_
        show Ev S (d + 2) 150 21 [some (.inr (some 60)), some (.inl x1), some (.inl x2), some (.inl (σ 61 j1)), some (.inl (σ 61 j2)), none, none, none, none, none] [.inl 0] σ _
        refine e_if (P := ¬ (0 : Int32) = 0) q_150 rfl m_c1 (fun c => absurd c (by decide)) (fun _ => ?_)
        refine e_push q_150 rfl ?_
        refine e_goto q_150 rfl ?_
        exact e_zreturn q_150 rfl rfl (by decide) h
      · replace h := h.2 c
        refine e_push q_125 rfl ?_
        refine e_goto q_125 rfl ?_
        refine e_zreturn q_125 rfl rfl (by decide) ?_
        show Ev S (d + 2) 150 21 [some (.inr (some 60)), some (.inl x1), some (.inl x2), some (.inl (σ 61 j1)), some (.inl (σ 61 j2)), none, none, none, none, none] [.inl 1] σ _
        refine e_if (P := ¬ (1 : Int32) = 0) q_150 rfl m_c1 (fun _ => ?_) (fun c => absurd (by decide) c)
        refine e_push q_150 rfl ?_
        exact e_zreturn q_150 rfl rfl (by decide) h
    | 2, hj, hl, hx =>
      rw [show m_swt 99 1 [12, 18, 26, 65] (x1) = 26 from hx]
      replace h := h.2.2.1 (hj.trans (by decide +kernel))
      refine e_push q_150 rfl ?_
      refine e_store (ls' := [some (.inr (some 60)), some (.inl x1), some (.inl x2), some (.inl (σ 61 j1)), some (.inl (σ 61 j2)), some (.inl 1), none, none, none, none]) q_150 rfl (Nat.le_of_ble_eq_true rfl) rfl rfl ?_
      refine e_push q_150 rfl ?_
      refine e_store (ls' := [some (.inr (some 60)), some (.inl x1), some (.inl x2), some (.inl (σ 61 j1)), some (.inl (σ 61 j2)), some (.inl 1), some (.inl 0), none, none, none]) q_150 rfl (Nat.le_of_ble_eq_true rfl) rfl rfl ?_
      exact h
    | 3, hj, hl, hx =>
      rw [show m_swt 99 1 [12, 18, 26, 65] (x1) = 65 from hx]
      replace h := h.2.2.2.1 (hj.trans (by decide +kernel))
      refine e_load q_150 rfl rfl rfl ?_
      refine e_load q_150 rfl rfl rfl ?_
      refine e_bin (r := (σ 61 j2) - (σ 61 j1)) q_150 rfl rfl ?_
      refine e_store (ls' := [some (.inr (some 60)), some (.inl x1), some (.inl x2), some (.inl (σ 61 j1)), some (.inl (σ 61 j2)), none, some (.inl ((σ 61 j2) - (σ 61 j1))), none, none, none]) q_150 rfl (Nat.le_of_ble_eq_true rfl) rfl rfl ?_
      refine e_load q_150 rfl rfl rfl ?_
      refine e_load q_150 rfl rfl rfl ?_
      refine e_push q_150 rfl ?_
      refine e_virt q_150 rfl rfl (Nat.le_of_ble_eq_true rfl) rfl rfl (Nat.le_of_ble_eq_true rfl) rfl ?_
      show Ev S (d + 1) 122 0 [some (.inr (some 60)), some (.inl x2), some (.inl 3)] [] σ _
      refine e_load q_122 rfl rfl rfl ?_
      refine e_getR q_122 rfl rfl rfl ?_
      refine e_push q_122 rfl ?_
      refine e_push q_122 rfl ?_
      refine e_load q_122 rfl rfl rfl ?_
      refine e_bin (r := 9 * x2) q_122 rfl rfl ?_
      refine e_bin (r := 1 + (9 * x2)) q_122 rfl rfl ?_
      refine e_load q_122 rfl rfl rfl ?_
      refine e_bin (r := (1 + (9 * x2)) + 3) q_122 rfl rfl ?_
      obtain ⟨j4, hjj4, hlj4, h⟩ := h
      refine e_iald q_122 rfl rfl (by decide) hjj4 hlj4 ?_
      refine e_ireturn q_122 rfl rfl ?_
      show Ev S (d + 2) 150 73 [some (.inr (some 60)), some (.inl x1), some (.inl x2), some (.inl (σ 61 j1)), some (.inl (σ 61 j2)), none, some (.inl ((σ 61 j2) - (σ 61 j1))), none, none, none] [.inl (σ 61 j4)] σ _
      refine e_if (P := ¬ (σ 61 j4) = 0) q_150 rfl m_c1 (fun c => ?_) (fun c => ?_)
      · replace h := h.1 c
        refine e_load q_150 rfl rfl rfl ?_
        refine e_if (P := (σ 61 j2) < 0) q_150 rfl m_c2 (fun c => ?_) (fun c => ?_)
        · replace h := h.1 c
          refine e_push q_150 rfl ?_
          exact e_zreturn q_150 rfl rfl (by decide) h
        · replace h := h.2 c
          refine e_load q_150 rfl rfl rfl ?_
          refine e_load q_150 rfl rfl rfl ?_
          refine e_virt q_150 rfl rfl (Nat.le_of_ble_eq_true rfl) rfl rfl (Nat.le_of_ble_eq_true rfl) rfl ?_
          show Ev S (d + 1) 125 0 [some (.inr (some 60)), some (.inl (σ 61 j2))] [] σ _
          refine e_load q_125 rfl rfl rfl ?_
          refine e_getR q_125 rfl rfl rfl ?_
          refine e_push q_125 rfl ?_
          refine e_load q_125 rfl rfl rfl ?_
          refine e_bin (r := 79 + (σ 61 j2)) q_125 rfl rfl ?_
          obtain ⟨j5, hjj5, hlj5, h⟩ := h
          refine e_iald q_125 rfl rfl (by decide) hjj5 hlj5 ?_
          refine e_push q_125 rfl ?_
          refine e_icmp (P := ¬ (σ 61 j5) = 1) q_125 rfl m_c1 (fun c => ?_) (fun c => ?_)
          · replace h := h.1 c
            refine e_push q_125 rfl ?_
            refine e_zreturn q_125 rfl rfl (by decide) ?_
            show Ev S (d + 2) 150 85 [some (.inr (some 60)), some (.inl x1), some (.inl x2), some (.inl (σ 61 j1)), some (.inl (σ 61 j2)), none, some (.inl ((σ 61 j2) - (σ 61 j1))), none, none, none] [.inl 0] σ _
            refine e_if (P := ¬ (0 : Int32) = 0) q_150 rfl m_c1 (fun c => absurd c (by decide)) (fun _ => ?_)
            refine e_load q_150 rfl rfl rfl ?_
            refine e_push q_150 rfl ?_
            refine e_icmp (P := ((σ 61 j2) - (σ 61 j1)) < 1) q_150 rfl m_c2 (fun c => ?_) (fun c => ?_)
            · replace h := h.1 c
              refine e_push q_150 rfl ?_
              exact e_zreturn q_150 rfl rfl (by decide) h
            · replace h := h.2 c
              refine e_load q_150 rfl rfl rfl ?_
              refine e_load q_150 rfl rfl rfl ?_
              refine e_load q_150 rfl rfl rfl ?_
              refine e_push q_150 rfl ?_
              refine e_virt q_150 rfl rfl (Nat.le_of_ble_eq_true rfl) rfl rfl (Nat.le_of_ble_eq_true rfl) rfl ?_
              show Ev S (d + 1) 122 0 [some (.inr (some 60)), some (.inl x2), some (.inl 3)] [] σ _
              refine e_load q_122 rfl rfl rfl ?_
              refine e_getR q_122 rfl rfl rfl ?_
              refine e_push q_122 rfl ?_
              refine e_push q_122 rfl ?_
              refine e_load q_122 rfl rfl rfl ?_
              refine e_bin (r := 9 * x2) q_122 rfl rfl ?_
              refine e_bin (r := 1 + (9 * x2)) q_122 rfl rfl ?_
              refine e_load q_122 rfl rfl rfl ?_
              refine e_bin (r := (1 + (9 * x2)) + 3) q_122 rfl rfl ?_
              obtain ⟨j6, hjj6, hlj6, h⟩ := h
              refine e_iald q_122 rfl rfl (by decide) hjj6 hlj6 ?_
              refine e_ireturn q_122 rfl rfl ?_
              show Ev S (d + 2) 150 94 [some (.inr (some 60)), some (.inl x1), some (.inl x2), some (.inl (σ 61 j1)), some (.inl (σ 61 j2)), none, some (.inl ((σ 61 j2) - (σ 61 j1))), none, none, none] [.inl (σ 61 j6), .inl ((σ 61 j2) - (σ 61 j1))] σ _
              refine e_icmp (P := (σ 61 j6) < ((σ 61 j2) - (σ 61 j1))) q_150 rfl m_c4 (fun c => ?_) (fun c => ?_)
              · replace h := h.1 c
                refine e_push q_150 rfl ?_
                exact e_zreturn q_150 rfl rfl (by decide) h
              · replace h := h.2 c
                refine e_push q_150 rfl ?_
                refine e_goto q_150 rfl ?_
                exact e_zreturn q_150 rfl rfl (by decide) h
          · replace h := h.2 c
            refine e_push q_125 rfl ?_
            refine e_goto q_125 rfl ?_
            refine e_zreturn q_125 rfl rfl (by decide) ?_
            show Ev S (d + 2) 150 85 [some (.inr (some 60)), some (.inl x1), some (.inl x2), some (.inl (σ 61 j1)), some (.inl (σ 61 j2)), none, some (.inl ((σ 61 j2) - (σ 61 j1))), none, none, none] [.inl 1] σ _
            refine e_if (P := ¬ (1 : Int32) = 0) q_150 rfl m_c1 (fun _ => ?_) (fun c => absurd (by decide) c)
            refine e_push q_150 rfl ?_
            exact e_zreturn q_150 rfl rfl (by decide) h
      · replace h := h.2 c
        refine e_load q_150 rfl rfl rfl ?_
        refine e_if (P := 0 ≤ (σ 61 j2)) q_150 rfl m_c3 (fun c => ?_) (fun c => ?_)
        · replace h := h.1 c
          refine e_push q_150 rfl ?_
          refine e_goto q_150 rfl ?_
          exact e_zreturn q_150 rfl rfl (by decide) h
        · replace h := h.2 c
          refine e_push q_150 rfl ?_
          refine e_goto q_150 rfl ?_
          exact e_zreturn q_150 rfl rfl (by decide) h
    | j + 4, hj, hl, hx => exact absurd hl (show ¬ j + 4 < 4 by omega)
  · rw [hx]
    replace h := h.2.2.2.2 hn
    refine e_load q_150 rfl rfl rfl ?_
    refine e_load q_150 rfl rfl rfl ?_
    refine e_push q_150 rfl ?_
    refine e_virt q_150 rfl rfl (Nat.le_of_ble_eq_true rfl) rfl rfl (Nat.le_of_ble_eq_true rfl) rfl ?_
    show Ev S (d + 1) 122 0 [some (.inr (some 60)), some (.inl x2), some (.inl 0)] [] σ _
    refine e_load q_122 rfl rfl rfl ?_
    refine e_getR q_122 rfl rfl rfl ?_
    refine e_push q_122 rfl ?_
    refine e_push q_122 rfl ?_
    refine e_load q_122 rfl rfl rfl ?_
    refine e_bin (r := 9 * x2) q_122 rfl rfl ?_
    refine e_bin (r := 1 + (9 * x2)) q_122 rfl rfl ?_
    refine e_load q_122 rfl rfl rfl ?_
    refine e_bin (r := (1 + (9 * x2)) + 0) q_122 rfl rfl ?_
    obtain ⟨j7, hjj7, hlj7, h⟩ := h
    refine e_iald q_122 rfl rfl (by decide) hjj7 hlj7 ?_
    refine e_ireturn q_122 rfl rfl ?_
    show Ev S (d + 2) 150 103 [some (.inr (some 60)), some (.inl x1), some (.inl x2), some (.inl (σ 61 j1)), some (.inl (σ 61 j2)), none, none, none, none, none] [.inl (σ 61 j7)] σ _
    refine e_push q_150 rfl ?_
    refine e_icmp (P := (σ 61 j7) = 1) q_150 rfl m_c0 (fun c => ?_) (fun c => ?_)
    · replace h := h.1 c
      refine e_push q_150 rfl ?_
      refine e_goto q_150 rfl ?_
      refine e_store (ls' := [some (.inr (some 60)), some (.inl x1), some (.inl x2), some (.inl (σ 61 j1)), some (.inl (σ 61 j2)), none, none, some (.inl 1), none, none]) q_150 rfl (Nat.le_of_ble_eq_true rfl) rfl rfl ?_
      refine e_load q_150 rfl rfl rfl ?_
      refine e_load q_150 rfl rfl rfl ?_
      refine e_push q_150 rfl ?_
      refine e_virt q_150 rfl rfl (Nat.le_of_ble_eq_true rfl) rfl rfl (Nat.le_of_ble_eq_true rfl) rfl ?_
      show Ev S (d + 1) 122 0 [some (.inr (some 60)), some (.inl x2), some (.inl 0)] [] σ _
      refine e_load q_122 rfl rfl rfl ?_
      refine e_getR q_122 rfl rfl rfl ?_
      refine e_push q_122 rfl ?_
      refine e_push q_122 rfl ?_
      refine e_load q_122 rfl rfl rfl ?_
      refine e_bin (r := 9 * x2) q_122 rfl rfl ?_
      refine e_bin (r := 1 + (9 * x2)) q_122 rfl rfl ?_
      refine e_load q_122 rfl rfl rfl ?_
      refine e_bin (r := (1 + (9 * x2)) + 0) q_122 rfl rfl ?_
      obtain ⟨j8, hjj8, hlj8, h⟩ := h
      refine e_iald q_122 rfl rfl (by decide) hjj8 hlj8 ?_
      refine e_ireturn q_122 rfl rfl ?_
      show Ev S (d + 2) 150 119 [some (.inr (some 60)), some (.inl x1), some (.inl x2), some (.inl (σ 61 j1)), some (.inl (σ 61 j2)), none, none, some (.inl 1), none, none] [.inl (σ 61 j8)] σ _
      refine e_push q_150 rfl ?_
      refine e_icmp (P := ¬ (σ 61 j8) = 3) q_150 rfl m_c1 (fun c => ?_) (fun c => ?_)
      · replace h := h.1 c
        refine e_push q_150 rfl ?_
        refine e_store (ls' := [some (.inr (some 60)), some (.inl x1), some (.inl x2), some (.inl (σ 61 j1)), some (.inl (σ 61 j2)), none, none, some (.inl 1), some (.inl (-1)), none]) q_150 rfl (Nat.le_of_ble_eq_true rfl) rfl rfl ?_
        refine e_load q_150 rfl rfl rfl ?_
        refine e_if (P := ((-1) : Int32) < 0) q_150 rfl m_c2 (fun _ => ?_) (fun c => absurd (by decide) c)
        refine e_push q_150 rfl ?_
        refine e_goto q_150 rfl ?_
        refine e_store (ls' := [some (.inr (some 60)), some (.inl x1), some (.inl x2), some (.inl (σ 61 j1)), some (.inl (σ 61 j2)), none, none, some (.inl 1), some (.inl (-1)), some (.inl 1)]) q_150 rfl (Nat.le_of_ble_eq_true rfl) rfl rfl ?_
        refine e_load q_150 rfl rfl rfl ?_
        refine e_if (P := (1 : Int32) = 0) q_150 rfl m_c0 (fun c => absurd c (by decide)) (fun _ => ?_)
        refine e_load q_150 rfl rfl rfl ?_
        refine e_load q_150 rfl rfl rfl ?_
        refine e_getR q_150 rfl rfl rfl ?_
        refine e_push q_150 rfl ?_
        refine e_iald (j := 85) q_150 rfl rfl (by decide) (by decide +kernel) (by decide) ?_
        refine e_icmp (P := (σ 61 85) ≤ (σ 61 j1)) q_150 rfl m_c3 (fun c => ?_) (fun c => ?_)
        · replace h := h.1 c
          refine e_push q_150 rfl ?_
          exact e_zreturn q_150 rfl rfl (by decide) h
        · replace h := h.2 c
          refine e_load q_150 rfl rfl rfl ?_
          refine e_load q_150 rfl rfl rfl ?_
          refine e_getR q_150 rfl rfl rfl ?_
          refine e_push q_150 rfl ?_
          refine e_iald (j := 85) q_150 rfl rfl (by decide) (by decide +kernel) (by decide) ?_
          refine e_icmp (P := (σ 61 85) ≤ (σ 61 j2)) q_150 rfl m_c3 (fun c => ?_) (fun c => ?_)
          · replace h := h.1 c
            refine e_push q_150 rfl ?_
            exact e_zreturn q_150 rfl rfl (by decide) h
          · replace h := h.2 c
            refine e_load q_150 rfl rfl rfl ?_
            refine e_if (P := (1 : Int32) = 0) q_150 rfl m_c0 (fun c => absurd c (by decide)) (fun _ => ?_)
            refine e_push q_150 rfl ?_
            refine e_goto q_150 rfl ?_
            exact e_zreturn q_150 rfl rfl (by decide) h
      · replace h := h.2 c
        refine e_load q_150 rfl rfl rfl ?_
        refine e_load q_150 rfl rfl rfl ?_
        refine e_push q_150 rfl ?_
        refine e_virt q_150 rfl rfl (Nat.le_of_ble_eq_true rfl) rfl rfl (Nat.le_of_ble_eq_true rfl) rfl ?_
        show Ev S (d + 1) 122 0 [some (.inr (some 60)), some (.inl x2), some (.inl 5)] [] σ _
        refine e_load q_122 rfl rfl rfl ?_
        refine e_getR q_122 rfl rfl rfl ?_
        refine e_push q_122 rfl ?_
        refine e_push q_122 rfl ?_
        refine e_load q_122 rfl rfl rfl ?_
        refine e_bin (r := 9 * x2) q_122 rfl rfl ?_
        refine e_bin (r := 1 + (9 * x2)) q_122 rfl rfl ?_
        refine e_load q_122 rfl rfl rfl ?_
        refine e_bin (r := (1 + (9 * x2)) + 5) q_122 rfl rfl ?_
        obtain ⟨j11, hjj11, hlj11, h⟩ := h
        refine e_iald q_122 rfl rfl (by decide) hjj11 hlj11 ?_
        refine e_ireturn q_122 rfl rfl ?_
        show Ev S (d + 2) 150 125 [some (.inr (some 60)), some (.inl x1), some (.inl x2), some (.inl (σ 61 j1)), some (.inl (σ 61 j2)), none, none, some (.inl 1), none, none] [.inl (σ 61 j11)] σ _
        refine e_goto q_150 rfl ?_
        refine e_store (ls' := [some (.inr (some 60)), some (.inl x1), some (.inl x2), some (.inl (σ 61 j1)), some (.inl (σ 61 j2)), none, none, some (.inl 1), some (.inl (σ 61 j11)), none]) q_150 rfl (Nat.le_of_ble_eq_true rfl) rfl rfl ?_
        refine e_load q_150 rfl rfl rfl ?_
        refine e_if (P := (σ 61 j11) < 0) q_150 rfl m_c2 (fun c => ?_) (fun c => ?_)
        · replace h := h.1 c
          refine e_push q_150 rfl ?_
          refine e_goto q_150 rfl ?_
          refine e_store (ls' := [some (.inr (some 60)), some (.inl x1), some (.inl x2), some (.inl (σ 61 j1)), some (.inl (σ 61 j2)), none, none, some (.inl 1), some (.inl (σ 61 j11)), some (.inl 1)]) q_150 rfl (Nat.le_of_ble_eq_true rfl) rfl rfl ?_
          refine e_load q_150 rfl rfl rfl ?_
          refine e_if (P := (1 : Int32) = 0) q_150 rfl m_c0 (fun c => absurd c (by decide)) (fun _ => ?_)
          refine e_load q_150 rfl rfl rfl ?_
          refine e_load q_150 rfl rfl rfl ?_
          refine e_getR q_150 rfl rfl rfl ?_
          refine e_push q_150 rfl ?_
          refine e_iald (j := 85) q_150 rfl rfl (by decide) (by decide +kernel) (by decide) ?_
          refine e_icmp (P := (σ 61 85) ≤ (σ 61 j1)) q_150 rfl m_c3 (fun c => ?_) (fun c => ?_)
          · replace h := h.1 c
            refine e_push q_150 rfl ?_
            exact e_zreturn q_150 rfl rfl (by decide) h
          · replace h := h.2 c
            refine e_load q_150 rfl rfl rfl ?_
            refine e_load q_150 rfl rfl rfl ?_
            refine e_getR q_150 rfl rfl rfl ?_
            refine e_push q_150 rfl ?_
            refine e_iald (j := 85) q_150 rfl rfl (by decide) (by decide +kernel) (by decide) ?_
            refine e_icmp (P := (σ 61 85) ≤ (σ 61 j2)) q_150 rfl m_c3 (fun c => ?_) (fun c => ?_)
            · replace h := h.1 c
              refine e_push q_150 rfl ?_
              exact e_zreturn q_150 rfl rfl (by decide) h
            · replace h := h.2 c
              refine e_load q_150 rfl rfl rfl ?_
              refine e_if (P := (1 : Int32) = 0) q_150 rfl m_c0 (fun c => absurd c (by decide)) (fun _ => ?_)
              refine e_push q_150 rfl ?_
              refine e_goto q_150 rfl ?_
              exact e_zreturn q_150 rfl rfl (by decide) h
        · replace h := h.2 c
          refine e_load q_150 rfl rfl rfl ?_
          refine e_load q_150 rfl rfl rfl ?_
          refine e_virt q_150 rfl rfl (Nat.le_of_ble_eq_true rfl) rfl rfl (Nat.le_of_ble_eq_true rfl) rfl ?_
          show Ev S (d + 1) 124 0 [some (.inr (some 60)), some (.inl (σ 61 j11))] [] σ _
          refine e_load q_124 rfl rfl rfl ?_
          refine e_load q_124 rfl rfl rfl ?_
          refine e_push q_124 rfl ?_
          refine e_virt q_124 rfl rfl (Nat.le_of_ble_eq_true rfl) rfl rfl (Nat.le_of_ble_eq_true rfl) rfl ?_
          show Ev S d 122 0 [some (.inr (some 60)), some (.inl (σ 61 j11)), some (.inl 0)] [] σ _
          refine e_load q_122 rfl rfl rfl ?_
          refine e_getR q_122 rfl rfl rfl ?_
          refine e_push q_122 rfl ?_
          refine e_push q_122 rfl ?_
          refine e_load q_122 rfl rfl rfl ?_
          refine e_bin (r := 9 * (σ 61 j11)) q_122 rfl rfl ?_
          refine e_bin (r := 1 + (9 * (σ 61 j11))) q_122 rfl rfl ?_
          refine e_load q_122 rfl rfl rfl ?_
          refine e_bin (r := (1 + (9 * (σ 61 j11))) + 0) q_122 rfl rfl ?_
          obtain ⟨j14, hjj14, hlj14, h⟩ := h
          refine e_iald q_122 rfl rfl (by decide) hjj14 hlj14 ?_
          refine e_ireturn q_122 rfl rfl ?_
          show Ev S (d + 1) 124 4 [some (.inr (some 60)), some (.inl (σ 61 j11))] [.inl (σ 61 j14)] σ _
          refine e_push q_124 rfl ?_
          refine e_icmp (P := ¬ (σ 61 j14) = 2) q_124 rfl m_c1 (fun c => ?_) (fun c => ?_)
          · replace h := h.1 c
            refine e_push q_124 rfl ?_
            refine e_zreturn q_124 rfl rfl (by decide) ?_
            show Ev S (d + 2) 150 133 [some (.inr (some 60)), some (.inl x1), some (.inl x2), some (.inl (σ 61 j1)), some (.inl (σ 61 j2)), none, none, some (.inl 1), some (.inl (σ 61 j11)), none] [.inl 0] σ _
            refine e_if (P := ¬ (0 : Int32) = 0) q_150 rfl m_c1 (fun c => absurd c (by decide)) (fun _ => ?_)
            refine e_load q_150 rfl rfl rfl ?_
            refine e_load q_150 rfl rfl rfl ?_
            refine e_push q_150 rfl ?_
            refine e_virt q_150 rfl rfl (Nat.le_of_ble_eq_true rfl) rfl rfl (Nat.le_of_ble_eq_true rfl) rfl ?_
            show Ev S (d + 1) 122 0 [some (.inr (some 60)), some (.inl (σ 61 j11)), some (.inl 6)] [] σ _
            refine e_load q_122 rfl rfl rfl ?_
            refine e_getR q_122 rfl rfl rfl ?_
            refine e_push q_122 rfl ?_
            refine e_push q_122 rfl ?_
            refine e_load q_122 rfl rfl rfl ?_
            refine e_bin (r := 9 * (σ 61 j11)) q_122 rfl rfl ?_
            refine e_bin (r := 1 + (9 * (σ 61 j11))) q_122 rfl rfl ?_
            refine e_load q_122 rfl rfl rfl ?_
            refine e_bin (r := (1 + (9 * (σ 61 j11))) + 6) q_122 rfl rfl ?_
            obtain ⟨j15, hjj15, hlj15, h⟩ := h
            refine e_iald q_122 rfl rfl (by decide) hjj15 hlj15 ?_
            refine e_ireturn q_122 rfl rfl ?_
            show Ev S (d + 2) 150 138 [some (.inr (some 60)), some (.inl x1), some (.inl x2), some (.inl (σ 61 j1)), some (.inl (σ 61 j2)), none, none, some (.inl 1), some (.inl (σ 61 j11)), none] [.inl (σ 61 j15)] σ _
            refine e_load q_150 rfl rfl rfl ?_
            refine e_icmp (P := ¬ (σ 61 j15) = (σ 61 j1)) q_150 rfl m_c1 (fun c => ?_) (fun c => ?_)
            · replace h := h.1 c
              refine e_push q_150 rfl ?_
              refine e_store (ls' := [some (.inr (some 60)), some (.inl x1), some (.inl x2), some (.inl (σ 61 j1)), some (.inl (σ 61 j2)), none, none, some (.inl 1), some (.inl (σ 61 j11)), some (.inl 0)]) q_150 rfl (Nat.le_of_ble_eq_true rfl) rfl rfl ?_
              refine e_load q_150 rfl rfl rfl ?_
              refine e_if (P := (1 : Int32) = 0) q_150 rfl m_c0 (fun c => absurd c (by decide)) (fun _ => ?_)
              refine e_load q_150 rfl rfl rfl ?_
              refine e_load q_150 rfl rfl rfl ?_
              refine e_getR q_150 rfl rfl rfl ?_
              refine e_push q_150 rfl ?_
              refine e_iald (j := 85) q_150 rfl rfl (by decide) (by decide +kernel) (by decide) ?_
              refine e_icmp (P := (σ 61 85) ≤ (σ 61 j1)) q_150 rfl m_c3 (fun c => ?_) (fun c => ?_)
              · replace h := h.1 c
                refine e_push q_150 rfl ?_
                exact e_zreturn q_150 rfl rfl (by decide) h
              · replace h := h.2 c
                refine e_load q_150 rfl rfl rfl ?_
                refine e_load q_150 rfl rfl rfl ?_
                refine e_getR q_150 rfl rfl rfl ?_
                refine e_push q_150 rfl ?_
                refine e_iald (j := 85) q_150 rfl rfl (by decide) (by decide +kernel) (by decide) ?_
                refine e_icmp (P := (σ 61 85) ≤ (σ 61 j2)) q_150 rfl m_c3 (fun c => ?_) (fun c => ?_)
                · replace h := h.1 c
                  refine e_push q_150 rfl ?_
                  exact e_zreturn q_150 rfl rfl (by decide) h
                · replace h := h.2 c
                  refine e_load q_150 rfl rfl rfl ?_
                  refine e_if (P := (0 : Int32) = 0) q_150 rfl m_c0 (fun _ => ?_) (fun c => absurd (by decide) c)
                  refine e_push q_150 rfl ?_
                  exact e_zreturn q_150 rfl rfl (by decide) h
            · replace h := h.2 c
              refine e_push q_150 rfl ?_
              refine e_goto q_150 rfl ?_
              refine e_store (ls' := [some (.inr (some 60)), some (.inl x1), some (.inl x2), some (.inl (σ 61 j1)), some (.inl (σ 61 j2)), none, none, some (.inl 1), some (.inl (σ 61 j11)), some (.inl 1)]) q_150 rfl (Nat.le_of_ble_eq_true rfl) rfl rfl ?_
              refine e_load q_150 rfl rfl rfl ?_
              refine e_if (P := (1 : Int32) = 0) q_150 rfl m_c0 (fun c => absurd c (by decide)) (fun _ => ?_)
              refine e_load q_150 rfl rfl rfl ?_
              refine e_load q_150 rfl rfl rfl ?_
              refine e_getR q_150 rfl rfl rfl ?_
              refine e_push q_150 rfl ?_
              refine e_iald (j := 85) q_150 rfl rfl (by decide) (by decide +kernel) (by decide) ?_
              refine e_icmp (P := (σ 61 85) ≤ (σ 61 j1)) q_150 rfl m_c3 (fun c => ?_) (fun c => ?_)
              · replace h := h.1 c
                refine e_push q_150 rfl ?_
                exact e_zreturn q_150 rfl rfl (by decide) h
              · replace h := h.2 c
                refine e_load q_150 rfl rfl rfl ?_
                refine e_load q_150 rfl rfl rfl ?_
                refine e_getR q_150 rfl rfl rfl ?_
                refine e_push q_150 rfl ?_
                refine e_iald (j := 85) q_150 rfl rfl (by decide) (by decide +kernel) (by decide) ?_
                refine e_icmp (P := (σ 61 85) ≤ (σ 61 j2)) q_150 rfl m_c3 (fun c => ?_) (fun c => ?_)
                · replace h := h.1 c
                  refine e_push q_150 rfl ?_
                  exact e_zreturn q_150 rfl rfl (by decide) h
                · replace h := h.2 c
                  refine e_load q_150 rfl rfl rfl ?_
                  refine e_if (P := (1 : Int32) = 0) q_150 rfl m_c0 (fun c => absurd c (by decide)) (fun _ => ?_)
                  refine e_push q_150 rfl ?_
                  refine e_goto q_150 rfl ?_
                  exact e_zreturn q_150 rfl rfl (by decide) h
          · replace h := h.2 c
            refine e_push q_124 rfl ?_
            refine e_goto q_124 rfl ?_
            refine e_zreturn q_124 rfl rfl (by decide) ?_
            show Ev S (d + 2) 150 133 [some (.inr (some 60)), some (.inl x1), some (.inl x2), some (.inl (σ 61 j1)), some (.inl (σ 61 j2)), none, none, some (.inl 1), some (.inl (σ 61 j11)), none] [.inl 1] σ _
            refine e_if (P := ¬ (1 : Int32) = 0) q_150 rfl m_c1 (fun _ => ?_) (fun c => absurd (by decide) c)
            refine e_push q_150 rfl ?_
            refine e_goto q_150 rfl ?_
            refine e_store (ls' := [some (.inr (some 60)), some (.inl x1), some (.inl x2), some (.inl (σ 61 j1)), some (.inl (σ 61 j2)), none, none, some (.inl 1), some (.inl (σ 61 j11)), some (.inl 1)]) q_150 rfl (Nat.le_of_ble_eq_true rfl) rfl rfl ?_
            refine e_load q_150 rfl rfl rfl ?_
            refine e_if (P := (1 : Int32) = 0) q_150 rfl m_c0 (fun c => absurd c (by decide)) (fun _ => ?_)
            refine e_load q_150 rfl rfl rfl ?_
            refine e_load q_150 rfl rfl rfl ?_
            refine e_getR q_150 rfl rfl rfl ?_
            refine e_push q_150 rfl ?_
            refine e_iald (j := 85) q_150 rfl rfl (by decide) (by decide +kernel) (by decide) ?_
            refine e_icmp (P := (σ 61 85) ≤ (σ 61 j1)) q_150 rfl m_c3 (fun c => ?_) (fun c => ?_)
            · replace h := h.1 c
              refine e_push q_150 rfl ?_
              exact e_zreturn q_150 rfl rfl (by decide) h
            · replace h := h.2 c
              refine e_load q_150 rfl rfl rfl ?_
              refine e_load q_150 rfl rfl rfl ?_
              refine e_getR q_150 rfl rfl rfl ?_
              refine e_push q_150 rfl ?_
              refine e_iald (j := 85) q_150 rfl rfl (by decide) (by decide +kernel) (by decide) ?_
              refine e_icmp (P := (σ 61 85) ≤ (σ 61 j2)) q_150 rfl m_c3 (fun c => ?_) (fun c => ?_)
              · replace h := h.1 c
                refine e_push q_150 rfl ?_
                exact e_zreturn q_150 rfl rfl (by decide) h
              · replace h := h.2 c
                refine e_load q_150 rfl rfl rfl ?_
                refine e_if (P := (1 : Int32) = 0) q_150 rfl m_c0 (fun c => absurd c (by decide)) (fun _ => ?_)
                refine e_push q_150 rfl ?_
                refine e_goto q_150 rfl ?_
                exact e_zreturn q_150 rfl rfl (by decide) h
    · replace h := h.2 c
      refine e_load q_150 rfl rfl rfl ?_
      refine e_load q_150 rfl rfl rfl ?_
      refine e_push q_150 rfl ?_
      refine e_virt q_150 rfl rfl (Nat.le_of_ble_eq_true rfl) rfl rfl (Nat.le_of_ble_eq_true rfl) rfl ?_
      show Ev S (d + 1) 122 0 [some (.inr (some 60)), some (.inl x2), some (.inl 0)] [] σ _
      refine e_load q_122 rfl rfl rfl ?_
      refine e_getR q_122 rfl rfl rfl ?_
      refine e_push q_122 rfl ?_
      refine e_push q_122 rfl ?_
      refine e_load q_122 rfl rfl rfl ?_
      refine e_bin (r := 9 * x2) q_122 rfl rfl ?_
      refine e_bin (r := 1 + (9 * x2)) q_122 rfl rfl ?_
      refine e_load q_122 rfl rfl rfl ?_
      refine e_bin (r := (1 + (9 * x2)) + 0) q_122 rfl rfl ?_
      obtain ⟨j22, hjj22, hlj22, h⟩ := h
      refine e_iald q_122 rfl rfl (by decide) hjj22 hlj22 ?_
      refine e_ireturn q_122 rfl rfl ?_
      show Ev S (d + 2) 150 109 [some (.inr (some 60)), some (.inl x1), some (.inl x2), some (.inl (σ 61 j1)), some (.inl (σ 61 j2)), none, none, none, none, none] [.inl (σ 61 j22)] σ _
      refine e_push q_150 rfl ?_
      refine e_icmp (P := ¬ (σ 61 j22) = 3) q_150 rfl m_c1 (fun c => ?_) (fun c => ?_)
      · replace h := h.1 c
        refine e_push q_150 rfl ?_
        refine e_store (ls' := [some (.inr (some 60)), some (.inl x1), some (.inl x2), some (.inl (σ 61 j1)), some (.inl (σ 61 j2)), none, none, some (.inl 0), none, none]) q_150 rfl (Nat.le_of_ble_eq_true rfl) rfl rfl ?_
        refine e_load q_150 rfl rfl rfl ?_
        refine e_load q_150 rfl rfl rfl ?_
        refine e_push q_150 rfl ?_
        refine e_virt q_150 rfl rfl (Nat.le_of_ble_eq_true rfl) rfl rfl (Nat.le_of_ble_eq_true rfl) rfl ?_
        show Ev S (d + 1) 122 0 [some (.inr (some 60)), some (.inl x2), some (.inl 0)] [] σ _
        refine e_load q_122 rfl rfl rfl ?_
        refine e_getR q_122 rfl rfl rfl ?_
        refine e_push q_122 rfl ?_
        refine e_push q_122 rfl ?_
        refine e_load q_122 rfl rfl rfl ?_
        refine e_bin (r := 9 * x2) q_122 rfl rfl ?_
        refine e_bin (r := 1 + (9 * x2)) q_122 rfl rfl ?_
        refine e_load q_122 rfl rfl rfl ?_
        refine e_bin (r := (1 + (9 * x2)) + 0) q_122 rfl rfl ?_
        obtain ⟨j23, hjj23, hlj23, h⟩ := h
        refine e_iald q_122 rfl rfl (by decide) hjj23 hlj23 ?_
        refine e_ireturn q_122 rfl rfl ?_
        show Ev S (d + 2) 150 119 [some (.inr (some 60)), some (.inl x1), some (.inl x2), some (.inl (σ 61 j1)), some (.inl (σ 61 j2)), none, none, some (.inl 0), none, none] [.inl (σ 61 j23)] σ _
        refine e_push q_150 rfl ?_
        refine e_icmp (P := ¬ (σ 61 j23) = 3) q_150 rfl m_c1 (fun c => ?_) (fun c => ?_)
        · replace h := h.1 c
          refine e_push q_150 rfl ?_
          refine e_store (ls' := [some (.inr (some 60)), some (.inl x1), some (.inl x2), some (.inl (σ 61 j1)), some (.inl (σ 61 j2)), none, none, some (.inl 0), some (.inl (-1)), none]) q_150 rfl (Nat.le_of_ble_eq_true rfl) rfl rfl ?_
          refine e_load q_150 rfl rfl rfl ?_
          refine e_if (P := ((-1) : Int32) < 0) q_150 rfl m_c2 (fun _ => ?_) (fun c => absurd (by decide) c)
          refine e_push q_150 rfl ?_
          refine e_goto q_150 rfl ?_
          refine e_store (ls' := [some (.inr (some 60)), some (.inl x1), some (.inl x2), some (.inl (σ 61 j1)), some (.inl (σ 61 j2)), none, none, some (.inl 0), some (.inl (-1)), some (.inl 1)]) q_150 rfl (Nat.le_of_ble_eq_true rfl) rfl rfl ?_
          refine e_load q_150 rfl rfl rfl ?_
          refine e_if (P := (0 : Int32) = 0) q_150 rfl m_c0 (fun _ => ?_) (fun c => absurd (by decide) c)
          refine e_load q_150 rfl rfl rfl ?_
          refine e_if (P := (1 : Int32) = 0) q_150 rfl m_c0 (fun c => absurd c (by decide)) (fun _ => ?_)
          refine e_push q_150 rfl ?_
          refine e_goto q_150 rfl ?_
          exact e_zreturn q_150 rfl rfl (by decide) h
        · replace h := h.2 c
          refine e_load q_150 rfl rfl rfl ?_
          refine e_load q_150 rfl rfl rfl ?_
          refine e_push q_150 rfl ?_
          refine e_virt q_150 rfl rfl (Nat.le_of_ble_eq_true rfl) rfl rfl (Nat.le_of_ble_eq_true rfl) rfl ?_
          show Ev S (d + 1) 122 0 [some (.inr (some 60)), some (.inl x2), some (.inl 5)] [] σ _
          refine e_load q_122 rfl rfl rfl ?_
          refine e_getR q_122 rfl rfl rfl ?_
          refine e_push q_122 rfl ?_
          refine e_push q_122 rfl ?_
          refine e_load q_122 rfl rfl rfl ?_
          refine e_bin (r := 9 * x2) q_122 rfl rfl ?_
          refine e_bin (r := 1 + (9 * x2)) q_122 rfl rfl ?_
          refine e_load q_122 rfl rfl rfl ?_
          refine e_bin (r := (1 + (9 * x2)) + 5) q_122 rfl rfl ?_
          obtain ⟨j24, hjj24, hlj24, h⟩ := h
          refine e_iald q_122 rfl rfl (by decide) hjj24 hlj24 ?_
          refine e_ireturn q_122 rfl rfl ?_
          show Ev S (d + 2) 150 125 [some (.inr (some 60)), some (.inl x1), some (.inl x2), some (.inl (σ 61 j1)), some (.inl (σ 61 j2)), none, none, some (.inl 0), none, none] [.inl (σ 61 j24)] σ _
          refine e_goto q_150 rfl ?_
          refine e_store (ls' := [some (.inr (some 60)), some (.inl x1), some (.inl x2), some (.inl (σ 61 j1)), some (.inl (σ 61 j2)), none, none, some (.inl 0), some (.inl (σ 61 j24)), none]) q_150 rfl (Nat.le_of_ble_eq_true rfl) rfl rfl ?_
          refine e_load q_150 rfl rfl rfl ?_
          refine e_if (P := (σ 61 j24) < 0) q_150 rfl m_c2 (fun c => ?_) (fun c => ?_)
          · replace h := h.1 c
            refine e_push q_150 rfl ?_
            refine e_goto q_150 rfl ?_
            refine e_store (ls' := [some (.inr (some 60)), some (.inl x1), some (.inl x2), some (.inl (σ 61 j1)), some (.inl (σ 61 j2)), none, none, some (.inl 0), some (.inl (σ 61 j24)), some (.inl 1)]) q_150 rfl (Nat.le_of_ble_eq_true rfl) rfl rfl ?_
            refine e_load q_150 rfl rfl rfl ?_
            refine e_if (P := (0 : Int32) = 0) q_150 rfl m_c0 (fun _ => ?_) (fun c => absurd (by decide) c)
            refine e_load q_150 rfl rfl rfl ?_
            refine e_if (P := (1 : Int32) = 0) q_150 rfl m_c0 (fun c => absurd c (by decide)) (fun _ => ?_)
            refine e_push q_150 rfl ?_
            refine e_goto q_150 rfl ?_
            exact e_zreturn q_150 rfl rfl (by decide) h
          · replace h := h.2 c
            refine e_load q_150 rfl rfl rfl ?_
            refine e_load q_150 rfl rfl rfl ?_
            refine e_virt q_150 rfl rfl (Nat.le_of_ble_eq_true rfl) rfl rfl (Nat.le_of_ble_eq_true rfl) rfl ?_
            show Ev S (d + 1) 124 0 [some (.inr (some 60)), some (.inl (σ 61 j24))] [] σ _
            refine e_load q_124 rfl rfl rfl ?_
            refine e_load q_124 rfl rfl rfl ?_
            refine e_push q_124 rfl ?_
            refine e_virt q_124 rfl rfl (Nat.le_of_ble_eq_true rfl) rfl rfl (Nat.le_of_ble_eq_true rfl) rfl ?_
            show Ev S d 122 0 [some (.inr (some 60)), some (.inl (σ 61 j24)), some (.inl 0)] [] σ _
            refine e_load q_122 rfl rfl rfl ?_
            refine e_getR q_122 rfl rfl rfl ?_
            refine e_push q_122 rfl ?_
            refine e_push q_122 rfl ?_
            refine e_load q_122 rfl rfl rfl ?_
            refine e_bin (r := 9 * (σ 61 j24)) q_122 rfl rfl ?_
            refine e_bin (r := 1 + (9 * (σ 61 j24))) q_122 rfl rfl ?_
            refine e_load q_122 rfl rfl rfl ?_
            refine e_bin (r := (1 + (9 * (σ 61 j24))) + 0) q_122 rfl rfl ?_
            obtain ⟨j25, hjj25, hlj25, h⟩ := h
            refine e_iald q_122 rfl rfl (by decide) hjj25 hlj25 ?_
            refine e_ireturn q_122 rfl rfl ?_
            show Ev S (d + 1) 124 4 [some (.inr (some 60)), some (.inl (σ 61 j24))] [.inl (σ 61 j25)] σ _
            refine e_push q_124 rfl ?_
            refine e_icmp (P := ¬ (σ 61 j25) = 2) q_124 rfl m_c1 (fun c => ?_) (fun c => ?_)
            · replace h := h.1 c
              refine e_push q_124 rfl ?_
              refine e_zreturn q_124 rfl rfl (by decide) ?_
              show Ev S (d + 2) 150 133 [some (.inr (some 60)), some (.inl x1), some (.inl x2), some (.inl (σ 61 j1)), some (.inl (σ 61 j2)), none, none, some (.inl 0), some (.inl (σ 61 j24)), none] [.inl 0] σ _
              refine e_if (P := ¬ (0 : Int32) = 0) q_150 rfl m_c1 (fun c => absurd c (by decide)) (fun _ => ?_)
              refine e_load q_150 rfl rfl rfl ?_
              refine e_load q_150 rfl rfl rfl ?_
              refine e_push q_150 rfl ?_
              refine e_virt q_150 rfl rfl (Nat.le_of_ble_eq_true rfl) rfl rfl (Nat.le_of_ble_eq_true rfl) rfl ?_
              show Ev S (d + 1) 122 0 [some (.inr (some 60)), some (.inl (σ 61 j24)), some (.inl 6)] [] σ _
              refine e_load q_122 rfl rfl rfl ?_
              refine e_getR q_122 rfl rfl rfl ?_
              refine e_push q_122 rfl ?_
              refine e_push q_122 rfl ?_
              refine e_load q_122 rfl rfl rfl ?_
              refine e_bin (r := 9 * (σ 61 j24)) q_122 rfl rfl ?_
              refine e_bin (r := 1 + (9 * (σ 61 j24))) q_122 rfl rfl ?_
              refine e_load q_122 rfl rfl rfl ?_
              refine e_bin (r := (1 + (9 * (σ 61 j24))) + 6) q_122 rfl rfl ?_
              obtain ⟨j26, hjj26, hlj26, h⟩ := h
              refine e_iald q_122 rfl rfl (by decide) hjj26 hlj26 ?_
              refine e_ireturn q_122 rfl rfl ?_
              show Ev S (d + 2) 150 138 [some (.inr (some 60)), some (.inl x1), some (.inl x2), some (.inl (σ 61 j1)), some (.inl (σ 61 j2)), none, none, some (.inl 0), some (.inl (σ 61 j24)), none] [.inl (σ 61 j26)] σ _
              refine e_load q_150 rfl rfl rfl ?_
              refine e_icmp (P := ¬ (σ 61 j26) = (σ 61 j1)) q_150 rfl m_c1 (fun c => ?_) (fun c => ?_)
              · replace h := h.1 c
                refine e_push q_150 rfl ?_
                refine e_store (ls' := [some (.inr (some 60)), some (.inl x1), some (.inl x2), some (.inl (σ 61 j1)), some (.inl (σ 61 j2)), none, none, some (.inl 0), some (.inl (σ 61 j24)), some (.inl 0)]) q_150 rfl (Nat.le_of_ble_eq_true rfl) rfl rfl ?_
                refine e_load q_150 rfl rfl rfl ?_
                refine e_if (P := (0 : Int32) = 0) q_150 rfl m_c0 (fun _ => ?_) (fun c => absurd (by decide) c)
                refine e_load q_150 rfl rfl rfl ?_
                refine e_if (P := (0 : Int32) = 0) q_150 rfl m_c0 (fun _ => ?_) (fun c => absurd (by decide) c)
                refine e_push q_150 rfl ?_
                exact e_zreturn q_150 rfl rfl (by decide) h
              · replace h := h.2 c
                refine e_push q_150 rfl ?_
                refine e_goto q_150 rfl ?_
                refine e_store (ls' := [some (.inr (some 60)), some (.inl x1), some (.inl x2), some (.inl (σ 61 j1)), some (.inl (σ 61 j2)), none, none, some (.inl 0), some (.inl (σ 61 j24)), some (.inl 1)]) q_150 rfl (Nat.le_of_ble_eq_true rfl) rfl rfl ?_
                refine e_load q_150 rfl rfl rfl ?_
                refine e_if (P := (0 : Int32) = 0) q_150 rfl m_c0 (fun _ => ?_) (fun c => absurd (by decide) c)
                refine e_load q_150 rfl rfl rfl ?_
                refine e_if (P := (1 : Int32) = 0) q_150 rfl m_c0 (fun c => absurd c (by decide)) (fun _ => ?_)
                refine e_push q_150 rfl ?_
                refine e_goto q_150 rfl ?_
                exact e_zreturn q_150 rfl rfl (by decide) h
            · replace h := h.2 c
              refine e_push q_124 rfl ?_
              refine e_goto q_124 rfl ?_
              refine e_zreturn q_124 rfl rfl (by decide) ?_
              show Ev S (d + 2) 150 133 [some (.inr (some 60)), some (.inl x1), some (.inl x2), some (.inl (σ 61 j1)), some (.inl (σ 61 j2)), none, none, some (.inl 0), some (.inl (σ 61 j24)), none] [.inl 1] σ _
              refine e_if (P := ¬ (1 : Int32) = 0) q_150 rfl m_c1 (fun _ => ?_) (fun c => absurd (by decide) c)
              refine e_push q_150 rfl ?_
              refine e_goto q_150 rfl ?_
              refine e_store (ls' := [some (.inr (some 60)), some (.inl x1), some (.inl x2), some (.inl (σ 61 j1)), some (.inl (σ 61 j2)), none, none, some (.inl 0), some (.inl (σ 61 j24)), some (.inl 1)]) q_150 rfl (Nat.le_of_ble_eq_true rfl) rfl rfl ?_
              refine e_load q_150 rfl rfl rfl ?_
              refine e_if (P := (0 : Int32) = 0) q_150 rfl m_c0 (fun _ => ?_) (fun c => absurd (by decide) c)
              refine e_load q_150 rfl rfl rfl ?_
              refine e_if (P := (1 : Int32) = 0) q_150 rfl m_c0 (fun c => absurd c (by decide)) (fun _ => ?_)
              refine e_push q_150 rfl ?_
              refine e_goto q_150 rfl ?_
              exact e_zreturn q_150 rfl rfl (by decide) h
      · replace h := h.2 c
        refine e_push q_150 rfl ?_
        refine e_goto q_150 rfl ?_
        refine e_store (ls' := [some (.inr (some 60)), some (.inl x1), some (.inl x2), some (.inl (σ 61 j1)), some (.inl (σ 61 j2)), none, none, some (.inl 1), none, none]) q_150 rfl (Nat.le_of_ble_eq_true rfl) rfl rfl ?_
        refine e_load q_150 rfl rfl rfl ?_
        refine e_load q_150 rfl rfl rfl ?_
        refine e_push q_150 rfl ?_
        refine e_virt q_150 rfl rfl (Nat.le_of_ble_eq_true rfl) rfl rfl (Nat.le_of_ble_eq_true rfl) rfl ?_
        show Ev S (d + 1) 122 0 [some (.inr (some 60)), some (.inl x2), some (.inl 0)] [] σ _
        refine e_load q_122 rfl rfl rfl ?_
        refine e_getR q_122 rfl rfl rfl ?_
        refine e_push q_122 rfl ?_
        refine e_push q_122 rfl ?_
        refine e_load q_122 rfl rfl rfl ?_
        refine e_bin (r := 9 * x2) q_122 rfl rfl ?_
        refine e_bin (r := 1 + (9 * x2)) q_122 rfl rfl ?_
        refine e_load q_122 rfl rfl rfl ?_
        refine e_bin (r := (1 + (9 * x2)) + 0) q_122 rfl rfl ?_
        obtain ⟨j27, hjj27, hlj27, h⟩ := h
        refine e_iald q_122 rfl rfl (by decide) hjj27 hlj27 ?_
        refine e_ireturn q_122 rfl rfl ?_
        show Ev S (d + 2) 150 119 [some (.inr (some 60)), some (.inl x1), some (.inl x2), some (.inl (σ 61 j1)), some (.inl (σ 61 j2)), none, none, some (.inl 1), none, none] [.inl (σ 61 j27)] σ _
        refine e_push q_150 rfl ?_
        refine e_icmp (P := ¬ (σ 61 j27) = 3) q_150 rfl m_c1 (fun c => ?_) (fun c => ?_)
        · replace h := h.1 c
          refine e_push q_150 rfl ?_
          refine e_store (ls' := [some (.inr (some 60)), some (.inl x1), some (.inl x2), some (.inl (σ 61 j1)), some (.inl (σ 61 j2)), none, none, some (.inl 1), some (.inl (-1)), none]) q_150 rfl (Nat.le_of_ble_eq_true rfl) rfl rfl ?_
          refine e_load q_150 rfl rfl rfl ?_
          refine e_if (P := ((-1) : Int32) < 0) q_150 rfl m_c2 (fun _ => ?_) (fun c => absurd (by decide) c)
          refine e_push q_150 rfl ?_
          refine e_goto q_150 rfl ?_
          refine e_store (ls' := [some (.inr (some 60)), some (.inl x1), some (.inl x2), some (.inl (σ 61 j1)), some (.inl (σ 61 j2)), none, none, some (.inl 1), some (.inl (-1)), some (.inl 1)]) q_150 rfl (Nat.le_of_ble_eq_true rfl) rfl rfl ?_
          refine e_load q_150 rfl rfl rfl ?_
          refine e_if (P := (1 : Int32) = 0) q_150 rfl m_c0 (fun c => absurd c (by decide)) (fun _ => ?_)
          refine e_load q_150 rfl rfl rfl ?_
          refine e_load q_150 rfl rfl rfl ?_
          refine e_getR q_150 rfl rfl rfl ?_
          refine e_push q_150 rfl ?_
          refine e_iald (j := 85) q_150 rfl rfl (by decide) (by decide +kernel) (by decide) ?_
          refine e_icmp (P := (σ 61 85) ≤ (σ 61 j1)) q_150 rfl m_c3 (fun c => ?_) (fun c => ?_)
          · replace h := h.1 c
            refine e_push q_150 rfl ?_
            exact e_zreturn q_150 rfl rfl (by decide) h
          · replace h := h.2 c
            refine e_load q_150 rfl rfl rfl ?_
            refine e_load q_150 rfl rfl rfl ?_
            refine e_getR q_150 rfl rfl rfl ?_
            refine e_push q_150 rfl ?_
            refine e_iald (j := 85) q_150 rfl rfl (by decide) (by decide +kernel) (by decide) ?_
            refine e_icmp (P := (σ 61 85) ≤ (σ 61 j2)) q_150 rfl m_c3 (fun c => ?_) (fun c => ?_)
            · replace h := h.1 c
              refine e_push q_150 rfl ?_
              exact e_zreturn q_150 rfl rfl (by decide) h
            · replace h := h.2 c
              refine e_load q_150 rfl rfl rfl ?_
              refine e_if (P := (1 : Int32) = 0) q_150 rfl m_c0 (fun c => absurd c (by decide)) (fun _ => ?_)
              refine e_push q_150 rfl ?_
              refine e_goto q_150 rfl ?_
              exact e_zreturn q_150 rfl rfl (by decide) h
        · replace h := h.2 c
          refine e_load q_150 rfl rfl rfl ?_
          refine e_load q_150 rfl rfl rfl ?_
          refine e_push q_150 rfl ?_
          refine e_virt q_150 rfl rfl (Nat.le_of_ble_eq_true rfl) rfl rfl (Nat.le_of_ble_eq_true rfl) rfl ?_
          show Ev S (d + 1) 122 0 [some (.inr (some 60)), some (.inl x2), some (.inl 5)] [] σ _
          refine e_load q_122 rfl rfl rfl ?_
          refine e_getR q_122 rfl rfl rfl ?_
          refine e_push q_122 rfl ?_
          refine e_push q_122 rfl ?_
          refine e_load q_122 rfl rfl rfl ?_
          refine e_bin (r := 9 * x2) q_122 rfl rfl ?_
          refine e_bin (r := 1 + (9 * x2)) q_122 rfl rfl ?_
          refine e_load q_122 rfl rfl rfl ?_
          refine e_bin (r := (1 + (9 * x2)) + 5) q_122 rfl rfl ?_
          obtain ⟨j30, hjj30, hlj30, h⟩ := h
          refine e_iald q_122 rfl rfl (by decide) hjj30 hlj30 ?_
          refine e_ireturn q_122 rfl rfl ?_
          show Ev S (d + 2) 150 125 [some (.inr (some 60)), some (.inl x1), some (.inl x2), some (.inl (σ 61 j1)), some (.inl (σ 61 j2)), none, none, some (.inl 1), none, none] [.inl (σ 61 j30)] σ _
          refine e_goto q_150 rfl ?_
          refine e_store (ls' := [some (.inr (some 60)), some (.inl x1), some (.inl x2), some (.inl (σ 61 j1)), some (.inl (σ 61 j2)), none, none, some (.inl 1), some (.inl (σ 61 j30)), none]) q_150 rfl (Nat.le_of_ble_eq_true rfl) rfl rfl ?_
          refine e_load q_150 rfl rfl rfl ?_
          refine e_if (P := (σ 61 j30) < 0) q_150 rfl m_c2 (fun c => ?_) (fun c => ?_)
          · replace h := h.1 c
            refine e_push q_150 rfl ?_
            refine e_goto q_150 rfl ?_
            refine e_store (ls' := [some (.inr (some 60)), some (.inl x1), some (.inl x2), some (.inl (σ 61 j1)), some (.inl (σ 61 j2)), none, none, some (.inl 1), some (.inl (σ 61 j30)), some (.inl 1)]) q_150 rfl (Nat.le_of_ble_eq_true rfl) rfl rfl ?_
            refine e_load q_150 rfl rfl rfl ?_
            refine e_if (P := (1 : Int32) = 0) q_150 rfl m_c0 (fun c => absurd c (by decide)) (fun _ => ?_)
            refine e_load q_150 rfl rfl rfl ?_
            refine e_load q_150 rfl rfl rfl ?_
            refine e_getR q_150 rfl rfl rfl ?_
            refine e_push q_150 rfl ?_
            refine e_iald (j := 85) q_150 rfl rfl (by decide) (by decide +kernel) (by decide) ?_
            refine e_icmp (P := (σ 61 85) ≤ (σ 61 j1)) q_150 rfl m_c3 (fun c => ?_) (fun c => ?_)
            · replace h := h.1 c
              refine e_push q_150 rfl ?_
              exact e_zreturn q_150 rfl rfl (by decide) h
            · replace h := h.2 c
              refine e_load q_150 rfl rfl rfl ?_
              refine e_load q_150 rfl rfl rfl ?_
              refine e_getR q_150 rfl rfl rfl ?_
              refine e_push q_150 rfl ?_
              refine e_iald (j := 85) q_150 rfl rfl (by decide) (by decide +kernel) (by decide) ?_
              refine e_icmp (P := (σ 61 85) ≤ (σ 61 j2)) q_150 rfl m_c3 (fun c => ?_) (fun c => ?_)
              · replace h := h.1 c
                refine e_push q_150 rfl ?_
                exact e_zreturn q_150 rfl rfl (by decide) h
              · replace h := h.2 c
                refine e_load q_150 rfl rfl rfl ?_
                refine e_if (P := (1 : Int32) = 0) q_150 rfl m_c0 (fun c => absurd c (by decide)) (fun _ => ?_)
                refine e_push q_150 rfl ?_
                refine e_goto q_150 rfl ?_
                exact e_zreturn q_150 rfl rfl (by decide) h
          · replace h := h.2 c
            refine e_load q_150 rfl rfl rfl ?_
            refine e_load q_150 rfl rfl rfl ?_
            refine e_virt q_150 rfl rfl (Nat.le_of_ble_eq_true rfl) rfl rfl (Nat.le_of_ble_eq_true rfl) rfl ?_
            show Ev S (d + 1) 124 0 [some (.inr (some 60)), some (.inl (σ 61 j30))] [] σ _
            refine e_load q_124 rfl rfl rfl ?_
            refine e_load q_124 rfl rfl rfl ?_
            refine e_push q_124 rfl ?_
            refine e_virt q_124 rfl rfl (Nat.le_of_ble_eq_true rfl) rfl rfl (Nat.le_of_ble_eq_true rfl) rfl ?_
            show Ev S d 122 0 [some (.inr (some 60)), some (.inl (σ 61 j30)), some (.inl 0)] [] σ _
            refine e_load q_122 rfl rfl rfl ?_
            refine e_getR q_122 rfl rfl rfl ?_
            refine e_push q_122 rfl ?_
            refine e_push q_122 rfl ?_
            refine e_load q_122 rfl rfl rfl ?_
            refine e_bin (r := 9 * (σ 61 j30)) q_122 rfl rfl ?_
            refine e_bin (r := 1 + (9 * (σ 61 j30))) q_122 rfl rfl ?_
            refine e_load q_122 rfl rfl rfl ?_
            refine e_bin (r := (1 + (9 * (σ 61 j30))) + 0) q_122 rfl rfl ?_
            obtain ⟨j33, hjj33, hlj33, h⟩ := h
            refine e_iald q_122 rfl rfl (by decide) hjj33 hlj33 ?_
            refine e_ireturn q_122 rfl rfl ?_
            show Ev S (d + 1) 124 4 [some (.inr (some 60)), some (.inl (σ 61 j30))] [.inl (σ 61 j33)] σ _
            refine e_push q_124 rfl ?_
            refine e_icmp (P := ¬ (σ 61 j33) = 2) q_124 rfl m_c1 (fun c => ?_) (fun c => ?_)
            · replace h := h.1 c
              refine e_push q_124 rfl ?_
              refine e_zreturn q_124 rfl rfl (by decide) ?_
              show Ev S (d + 2) 150 133 [some (.inr (some 60)), some (.inl x1), some (.inl x2), some (.inl (σ 61 j1)), some (.inl (σ 61 j2)), none, none, some (.inl 1), some (.inl (σ 61 j30)), none] [.inl 0] σ _
              refine e_if (P := ¬ (0 : Int32) = 0) q_150 rfl m_c1 (fun c => absurd c (by decide)) (fun _ => ?_)
              refine e_load q_150 rfl rfl rfl ?_
              refine e_load q_150 rfl rfl rfl ?_
              refine e_push q_150 rfl ?_
              refine e_virt q_150 rfl rfl (Nat.le_of_ble_eq_true rfl) rfl rfl (Nat.le_of_ble_eq_true rfl) rfl ?_
              show Ev S (d + 1) 122 0 [some (.inr (some 60)), some (.inl (σ 61 j30)), some (.inl 6)] [] σ _
              refine e_load q_122 rfl rfl rfl ?_
              refine e_getR q_122 rfl rfl rfl ?_
              refine e_push q_122 rfl ?_
              refine e_push q_122 rfl ?_
              refine e_load q_122 rfl rfl rfl ?_
              refine e_bin (r := 9 * (σ 61 j30)) q_122 rfl rfl ?_
              refine e_bin (r := 1 + (9 * (σ 61 j30))) q_122 rfl rfl ?_
              refine e_load q_122 rfl rfl rfl ?_
              refine e_bin (r := (1 + (9 * (σ 61 j30))) + 6) q_122 rfl rfl ?_
              obtain ⟨j34, hjj34, hlj34, h⟩ := h
              refine e_iald q_122 rfl rfl (by decide) hjj34 hlj34 ?_
              refine e_ireturn q_122 rfl rfl ?_
              show Ev S (d + 2) 150 138 [some (.inr (some 60)), some (.inl x1), some (.inl x2), some (.inl (σ 61 j1)), some (.inl (σ 61 j2)), none, none, some (.inl 1), some (.inl (σ 61 j30)), none] [.inl (σ 61 j34)] σ _
              refine e_load q_150 rfl rfl rfl ?_
              refine e_icmp (P := ¬ (σ 61 j34) = (σ 61 j1)) q_150 rfl m_c1 (fun c => ?_) (fun c => ?_)
              · replace h := h.1 c
                refine e_push q_150 rfl ?_
                refine e_store (ls' := [some (.inr (some 60)), some (.inl x1), some (.inl x2), some (.inl (σ 61 j1)), some (.inl (σ 61 j2)), none, none, some (.inl 1), some (.inl (σ 61 j30)), some (.inl 0)]) q_150 rfl (Nat.le_of_ble_eq_true rfl) rfl rfl ?_
                refine e_load q_150 rfl rfl rfl ?_
                refine e_if (P := (1 : Int32) = 0) q_150 rfl m_c0 (fun c => absurd c (by decide)) (fun _ => ?_)
                refine e_load q_150 rfl rfl rfl ?_
                refine e_load q_150 rfl rfl rfl ?_
                refine e_getR q_150 rfl rfl rfl ?_
                refine e_push q_150 rfl ?_
                refine e_iald (j := 85) q_150 rfl rfl (by decide) (by decide +kernel) (by decide) ?_
                refine e_icmp (P := (σ 61 85) ≤ (σ 61 j1)) q_150 rfl m_c3 (fun c => ?_) (fun c => ?_)
                · replace h := h.1 c
                  refine e_push q_150 rfl ?_
                  exact e_zreturn q_150 rfl rfl (by decide) h
                · replace h := h.2 c
                  refine e_load q_150 rfl rfl rfl ?_
                  refine e_load q_150 rfl rfl rfl ?_
                  refine e_getR q_150 rfl rfl rfl ?_
                  refine e_push q_150 rfl ?_
                  refine e_iald (j := 85) q_150 rfl rfl (by decide) (by decide +kernel) (by decide) ?_
                  refine e_icmp (P := (σ 61 85) ≤ (σ 61 j2)) q_150 rfl m_c3 (fun c => ?_) (fun c => ?_)
                  · replace h := h.1 c
                    refine e_push q_150 rfl ?_
                    exact e_zreturn q_150 rfl rfl (by decide) h
                  · replace h := h.2 c
                    refine e_load q_150 rfl rfl rfl ?_
                    refine e_if (P := (0 : Int32) = 0) q_150 rfl m_c0 (fun _ => ?_) (fun c => absurd (by decide) c)
                    refine e_push q_150 rfl ?_
                    exact e_zreturn q_150 rfl rfl (by decide) h
              · replace h := h.2 c
                refine e_push q_150 rfl ?_
                refine e_goto q_150 rfl ?_
                refine e_store (ls' := [some (.inr (some 60)), some (.inl x1), some (.inl x2), some (.inl (σ 61 j1)), some (.inl (σ 61 j2)), none, none, some (.inl 1), some (.inl (σ 61 j30)), some (.inl 1)]) q_150 rfl (Nat.le_of_ble_eq_true rfl) rfl rfl ?_
                refine e_load q_150 rfl rfl rfl ?_
                refine e_if (P := (1 : Int32) = 0) q_150 rfl m_c0 (fun c => absurd c (by decide)) (fun _ => ?_)
                refine e_load q_150 rfl rfl rfl ?_
                refine e_load q_150 rfl rfl rfl ?_
                refine e_getR q_150 rfl rfl rfl ?_
                refine e_push q_150 rfl ?_
                refine e_iald (j := 85) q_150 rfl rfl (by decide) (by decide +kernel) (by decide) ?_
                refine e_icmp (P := (σ 61 85) ≤ (σ 61 j1)) q_150 rfl m_c3 (fun c => ?_) (fun c => ?_)
                · replace h := h.1 c
                  refine e_push q_150 rfl ?_
                  exact e_zreturn q_150 rfl rfl (by decide) h
                · replace h := h.2 c
                  refine e_load q_150 rfl rfl rfl ?_
                  refine e_load q_150 rfl rfl rfl ?_
                  refine e_getR q_150 rfl rfl rfl ?_
                  refine e_push q_150 rfl ?_
                  refine e_iald (j := 85) q_150 rfl rfl (by decide) (by decide +kernel) (by decide) ?_
                  refine e_icmp (P := (σ 61 85) ≤ (σ 61 j2)) q_150 rfl m_c3 (fun c => ?_) (fun c => ?_)
                  · replace h := h.1 c
                    refine e_push q_150 rfl ?_
                    exact e_zreturn q_150 rfl rfl (by decide) h
                  · replace h := h.2 c
                    refine e_load q_150 rfl rfl rfl ?_
                    refine e_if (P := (1 : Int32) = 0) q_150 rfl m_c0 (fun c => absurd c (by decide)) (fun _ => ?_)
                    refine e_push q_150 rfl ?_
                    refine e_goto q_150 rfl ?_
                    exact e_zreturn q_150 rfl rfl (by decide) h
            · replace h := h.2 c
              refine e_push q_124 rfl ?_
              refine e_goto q_124 rfl ?_
              refine e_zreturn q_124 rfl rfl (by decide) ?_
              show Ev S (d + 2) 150 133 [some (.inr (some 60)), some (.inl x1), some (.inl x2), some (.inl (σ 61 j1)), some (.inl (σ 61 j2)), none, none, some (.inl 1), some (.inl (σ 61 j30)), none] [.inl 1] σ _
              refine e_if (P := ¬ (1 : Int32) = 0) q_150 rfl m_c1 (fun _ => ?_) (fun c => absurd (by decide) c)
              refine e_push q_150 rfl ?_
              refine e_goto q_150 rfl ?_
              refine e_store (ls' := [some (.inr (some 60)), some (.inl x1), some (.inl x2), some (.inl (σ 61 j1)), some (.inl (σ 61 j2)), none, none, some (.inl 1), some (.inl (σ 61 j30)), some (.inl 1)]) q_150 rfl (Nat.le_of_ble_eq_true rfl) rfl rfl ?_
              refine e_load q_150 rfl rfl rfl ?_
              refine e_if (P := (1 : Int32) = 0) q_150 rfl m_c0 (fun c => absurd c (by decide)) (fun _ => ?_)
              refine e_load q_150 rfl rfl rfl ?_
              refine e_load q_150 rfl rfl rfl ?_
              refine e_getR q_150 rfl rfl rfl ?_
              refine e_push q_150 rfl ?_
              refine e_iald (j := 85) q_150 rfl rfl (by decide) (by decide +kernel) (by decide) ?_
              refine e_icmp (P := (σ 61 85) ≤ (σ 61 j1)) q_150 rfl m_c3 (fun c => ?_) (fun c => ?_)
              · replace h := h.1 c
                refine e_push q_150 rfl ?_
                exact e_zreturn q_150 rfl rfl (by decide) h
              · replace h := h.2 c
                refine e_load q_150 rfl rfl rfl ?_
                refine e_load q_150 rfl rfl rfl ?_
                refine e_getR q_150 rfl rfl rfl ?_
                refine e_push q_150 rfl ?_
                refine e_iald (j := 85) q_150 rfl rfl (by decide) (by decide +kernel) (by decide) ?_
                refine e_icmp (P := (σ 61 85) ≤ (σ 61 j2)) q_150 rfl m_c3 (fun c => ?_) (fun c => ?_)
                · replace h := h.1 c
                  refine e_push q_150 rfl ?_
                  exact e_zreturn q_150 rfl rfl (by decide) h
                · replace h := h.2 c
                  refine e_load q_150 rfl rfl rfl ?_
                  refine e_if (P := (1 : Int32) = 0) q_150 rfl m_c0 (fun c => absurd c (by decide)) (fun _ => ?_)
                  refine e_push q_150 rfl ?_
                  refine e_goto q_150 rfl ?_
                  exact e_zreturn q_150 rfl rfl (by decide) h
theorem g_150_30 {S : Nat × (Nat → Int32)} {d : Nat} {σ : Mem} {Q : MQ1} {o1 : Option MV} {x2 : Int32} {x3 : Int32} {o4 : Option MV} {x5 : Int32} {x6 : Int32} {o7 : Option MV} {o8 : Option MV} {o9 : Option MV}  (h : (((σ 61 0) ≤ x6 → ((x5 = 0 ∨ x5 = 1) ∧ Q [.inl x5] σ)) ∧ (¬ ((σ 61 0) ≤ x6) → (∃ j2 : Nat, (1 + (9 * x2)) + 2 = nI j2 ∧ j2 < 86 ∧ (((((σ 61 j2) >>> (x6 &&& 31)) &&& 1) = 0 → Ev S (d + 2) 150 30 [some (.inr (some 60)), o1, some (.inl x2), some (.inl x3), o4, some (.inl (x5 &&& 1)), some (.inl (x6 + 1)), o7, o8, o9] [] σ Q) ∧ (¬ ((((σ 61 j2) >>> (x6 &&& 31)) &&& 1) = 0) → (∃ j3 : Nat, (1 + (9 * x6)) + 0 = nI j3 ∧ j3 < 86 ∧ (((¬ (σ 61 j3) = 2) → (∃ j4 : Nat, (1 + (9 * x6)) + 6 = nI j4 ∧ j4 < 86 ∧ ((x3 ≤ (σ 61 j4) → Ev S (d + 2) 150 30 [some (.inr (some 60)), o1, some (.inl x2), some (.inl x3), o4, some (.inl (x5 &&& 0)), some (.inl (x6 + 1)), o7, o8, o9] [] σ Q) ∧ (¬ (x3 ≤ (σ 61 j4)) → Ev S (d + 2) 150 30 [some (.inr (some 60)), o1, some (.inl x2), some (.inl x3), o4, some (.inl (x5 &&& 1)), some (.inl (x6 + 1)), o7, o8, o9] [] σ Q)))) ∧ (¬ (¬ (σ 61 j3) = 2) → Ev S (d + 2) 150 30 [some (.inr (some 60)), o1, some (.inl x2), some (.inl x3), o4, some (.inl (x5 &&& 1)), some (.inl (x6 + 1)), o7, o8, o9] [] σ Q))))))))) : Ev S (d + 2) 150 30 [some (.inr (some 60)), o1, some (.inl x2), some (.inl x3), o4, some (.inl x5), some (.inl x6), o7, o8, o9] [] σ Q := by
  refine e_load q_150 rfl rfl rfl ?_
  refine e_load q_150 rfl rfl rfl ?_
  refine e_getR q_150 rfl rfl rfl ?_
  refine e_push q_150 rfl ?_
  refine e_iald (j := 0) q_150 rfl rfl (by decide) (by decide +kernel) (by decide) ?_
  refine e_icmp (P := (σ 61 0) ≤ x6) q_150 rfl m_c3 (fun c => ?_) (fun c => ?_)
  · replace h := h.1 c
    refine e_load q_150 rfl rfl rfl ?_
    exact e_zreturn q_150 rfl rfl h.1 h.2
  · replace h := h.2 c
    refine e_load q_150 rfl rfl rfl ?_
    refine e_load q_150 rfl rfl rfl ?_
    refine e_load q_150 rfl rfl rfl ?_
    refine e_push q_150 rfl ?_
    refine e_virt q_150 rfl rfl (Nat.le_of_ble_eq_true rfl) rfl rfl (Nat.le_of_ble_eq_true rfl) rfl ?_
    show Ev S (d + 1) 122 0 [some (.inr (some 60)), some (.inl x2), some (.inl 2)] [] σ _
    refine e_load q_122 rfl rfl rfl ?_
    refine e_getR q_122 rfl rfl rfl ?_
    refine e_push q_122 rfl ?_
    refine e_push q_122 rfl ?_
    refine e_load q_122 rfl rfl rfl ?_
    refine e_bin (r := 9 * x2) q_122 rfl rfl ?_
    refine e_bin (r := 1 + (9 * x2)) q_122 rfl rfl ?_
    refine e_load q_122 rfl rfl rfl ?_
    refine e_bin (r := (1 + (9 * x2)) + 2) q_122 rfl rfl ?_
    obtain ⟨j2, hjj2, hlj2, h⟩ := h
    refine e_iald q_122 rfl rfl (by decide) hjj2 hlj2 ?_
    refine e_ireturn q_122 rfl rfl ?_
    show Ev S (d + 2) 150 41 [some (.inr (some 60)), o1, some (.inl x2), some (.inl x3), o4, some (.inl x5), some (.inl x6), o7, o8, o9] [.inl (σ 61 j2), .inl x5] σ _
    refine e_load q_150 rfl rfl rfl ?_
    refine e_bin (r := (σ 61 j2) >>> (x6 &&& 31)) q_150 rfl rfl ?_
    refine e_push q_150 rfl ?_
    refine e_bin (r := ((σ 61 j2) >>> (x6 &&& 31)) &&& 1) q_150 rfl rfl ?_
    refine e_if (P := (((σ 61 j2) >>> (x6 &&& 31)) &&& 1) = 0) q_150 rfl m_c0 (fun c => ?_) (fun c => ?_)
    · replace h := h.1 c
      refine e_push q_150 rfl ?_
      refine e_goto q_150 rfl ?_
      refine e_bin (r := x5 &&& 1) q_150 rfl rfl ?_
      refine e_store (ls' := [some (.inr (some 60)), o1, some (.inl x2), some (.inl x3), o4, some (.inl (x5 &&& 1)), some (.inl x6), o7, o8, o9]) q_150 rfl (Nat.le_of_ble_eq_true rfl) rfl rfl ?_
      refine e_iinc (ls' := [some (.inr (some 60)), o1, some (.inl x2), some (.inl x3), o4, some (.inl (x5 &&& 1)), some (.inl (x6 + 1)), o7, o8, o9]) q_150 rfl rfl rfl ?_
      refine e_goto q_150 rfl ?_
      exact h
    · replace h := h.2 c
      refine e_load q_150 rfl rfl rfl ?_
      refine e_load q_150 rfl rfl rfl ?_
      refine e_virt q_150 rfl rfl (Nat.le_of_ble_eq_true rfl) rfl rfl (Nat.le_of_ble_eq_true rfl) rfl ?_
      show Ev S (d + 1) 124 0 [some (.inr (some 60)), some (.inl x6)] [] σ _
      refine e_load q_124 rfl rfl rfl ?_
      refine e_load q_124 rfl rfl rfl ?_
      refine e_push q_124 rfl ?_
      refine e_virt q_124 rfl rfl (Nat.le_of_ble_eq_true rfl) rfl rfl (Nat.le_of_ble_eq_true rfl) rfl ?_
      show Ev S d 122 0 [some (.inr (some 60)), some (.inl x6), some (.inl 0)] [] σ _
      refine e_load q_122 rfl rfl rfl ?_
      refine e_getR q_122 rfl rfl rfl ?_
      refine e_push q_122 rfl ?_
      refine e_push q_122 rfl ?_
      refine e_load q_122 rfl rfl rfl ?_
      refine e_bin (r := 9 * x6) q_122 rfl rfl ?_
      refine e_bin (r := 1 + (9 * x6)) q_122 rfl rfl ?_
      refine e_load q_122 rfl rfl rfl ?_
      refine e_bin (r := (1 + (9 * x6)) + 0) q_122 rfl rfl ?_
      obtain ⟨j3, hjj3, hlj3, h⟩ := h
      refine e_iald q_122 rfl rfl (by decide) hjj3 hlj3 ?_
      refine e_ireturn q_122 rfl rfl ?_
      show Ev S (d + 1) 124 4 [some (.inr (some 60)), some (.inl x6)] [.inl (σ 61 j3)] σ _
      refine e_push q_124 rfl ?_
      refine e_icmp (P := ¬ (σ 61 j3) = 2) q_124 rfl m_c1 (fun c => ?_) (fun c => ?_)
      · replace h := h.1 c
        refine e_push q_124 rfl ?_
        refine e_zreturn q_124 rfl rfl (by decide) ?_
        show Ev S (d + 2) 150 49 [some (.inr (some 60)), o1, some (.inl x2), some (.inl x3), o4, some (.inl x5), some (.inl x6), o7, o8, o9] [.inl 0, .inl x5] σ _
        refine e_if (P := ¬ (0 : Int32) = 0) q_150 rfl m_c1 (fun c => absurd c (by decide)) (fun _ => ?_)
        refine e_load q_150 rfl rfl rfl ?_
        refine e_load q_150 rfl rfl rfl ?_
        refine e_push q_150 rfl ?_
        refine e_virt q_150 rfl rfl (Nat.le_of_ble_eq_true rfl) rfl rfl (Nat.le_of_ble_eq_true rfl) rfl ?_
        show Ev S (d + 1) 122 0 [some (.inr (some 60)), some (.inl x6), some (.inl 6)] [] σ _
        refine e_load q_122 rfl rfl rfl ?_
        refine e_getR q_122 rfl rfl rfl ?_
        refine e_push q_122 rfl ?_
        refine e_push q_122 rfl ?_
        refine e_load q_122 rfl rfl rfl ?_
        refine e_bin (r := 9 * x6) q_122 rfl rfl ?_
        refine e_bin (r := 1 + (9 * x6)) q_122 rfl rfl ?_
        refine e_load q_122 rfl rfl rfl ?_
        refine e_bin (r := (1 + (9 * x6)) + 6) q_122 rfl rfl ?_
        obtain ⟨j4, hjj4, hlj4, h⟩ := h
        refine e_iald q_122 rfl rfl (by decide) hjj4 hlj4 ?_
        refine e_ireturn q_122 rfl rfl ?_
        show Ev S (d + 2) 150 54 [some (.inr (some 60)), o1, some (.inl x2), some (.inl x3), o4, some (.inl x5), some (.inl x6), o7, o8, o9] [.inl (σ 61 j4), .inl x5] σ _
        refine e_load q_150 rfl rfl rfl ?_
        refine e_icmp (P := x3 ≤ (σ 61 j4)) q_150 rfl m_c3 (fun c => ?_) (fun c => ?_)
        · replace h := h.1 c
          refine e_push q_150 rfl ?_
          refine e_bin (r := x5 &&& 0) q_150 rfl rfl ?_
          refine e_store (ls' := [some (.inr (some 60)), o1, some (.inl x2), some (.inl x3), o4, some (.inl (x5 &&& 0)), some (.inl x6), o7, o8, o9]) q_150 rfl (Nat.le_of_ble_eq_true rfl) rfl rfl ?_
          refine e_iinc (ls' := [some (.inr (some 60)), o1, some (.inl x2), some (.inl x3), o4, some (.inl (x5 &&& 0)), some (.inl (x6 + 1)), o7, o8, o9]) q_150 rfl rfl rfl ?_
          refine e_goto q_150 rfl ?_
          exact h
        · replace h := h.2 c
          refine e_push q_150 rfl ?_
          refine e_goto q_150 rfl ?_
          refine e_bin (r := x5 &&& 1) q_150 rfl rfl ?_
          refine e_store (ls' := [some (.inr (some 60)), o1, some (.inl x2), some (.inl x3), o4, some (.inl (x5 &&& 1)), some (.inl x6), o7, o8, o9]) q_150 rfl (Nat.le_of_ble_eq_true rfl) rfl rfl ?_
          refine e_iinc (ls' := [some (.inr (some 60)), o1, some (.inl x2), some (.inl x3), o4, some (.inl (x5 &&& 1)), some (.inl (x6 + 1)), o7, o8, o9]) q_150 rfl rfl rfl ?_
          refine e_goto q_150 rfl ?_
          exact h
      · replace h := h.2 c
        refine e_push q_124 rfl ?_
        refine e_goto q_124 rfl ?_
        refine e_zreturn q_124 rfl rfl (by decide) ?_
        show Ev S (d + 2) 150 49 [some (.inr (some 60)), o1, some (.inl x2), some (.inl x3), o4, some (.inl x5), some (.inl x6), o7, o8, o9] [.inl 1, .inl x5] σ _
        refine e_if (P := ¬ (1 : Int32) = 0) q_150 rfl m_c1 (fun _ => ?_) (fun c => absurd (by decide) c)
        refine e_push q_150 rfl ?_
        refine e_goto q_150 rfl ?_
        refine e_bin (r := x5 &&& 1) q_150 rfl rfl ?_
        refine e_store (ls' := [some (.inr (some 60)), o1, some (.inl x2), some (.inl x3), o4, some (.inl (x5 &&& 1)), some (.inl x6), o7, o8, o9]) q_150 rfl (Nat.le_of_ble_eq_true rfl) rfl rfl ?_
        refine e_iinc (ls' := [some (.inr (some 60)), o1, some (.inl x2), some (.inl x3), o4, some (.inl (x5 &&& 1)), some (.inl (x6 + 1)), o7, o8, o9]) q_150 rfl rfl rfl ?_
        refine e_goto q_150 rfl ?_
        exact h
theorem g_151_0 {S : Nat × (Nat → Int32)} {d : Nat} {σ : Mem} {Q : MQ1}   (h : Ev S (d + 3) 151 2 [some (.inr (some 60)), some (.inl 1), none] [] σ Q) : Ev S (d + 3) 151 0 [some (.inr (some 60)), none, none] [] σ Q := by
  refine e_push q_151 rfl ?_
  refine e_store (ls' := [some (.inr (some 60)), some (.inl 1), none]) q_151 rfl (Nat.le_of_ble_eq_true rfl) rfl rfl ?_
  exact h
theorem g_151_2 {S : Nat × (Nat → Int32)} {d : Nat} {σ : Mem} {Q : MQ1} {x1 : Int32} {o2 : Option MV}  (h : ((5 < x1 → Ev S (d + 3) 151 34 [some (.inr (some 60)), some (.inl 0), o2] [] σ Q) ∧ (¬ (5 < x1) → Ev S (d + 3) 151 7 [some (.inr (some 60)), some (.inl x1), some (.inl 0)] [] σ Q))) : Ev S (d + 3) 151 2 [some (.inr (some 60)), some (.inl x1), o2] [] σ Q := by
  refine e_load q_151 rfl rfl rfl ?_
  refine e_push q_151 rfl ?_
  refine e_icmp (P := 5 < x1) q_151 rfl m_c4 (fun c => ?_) (fun c => ?_)
  · replace h := h.1 c
    refine e_push q_151 rfl ?_
    refine e_store (ls' := [some (.inr (some 60)), some (.inl 0), o2]) q_151 rfl (Nat.le_of_ble_eq_true rfl) rfl rfl ?_
    exact h
  · replace h := h.2 c
    refine e_push q_151 rfl ?_
    refine e_store (ls' := [some (.inr (some 60)), some (.inl x1), some (.inl 0)]) q_151 rfl (Nat.le_of_ble_eq_true rfl) rfl rfl ?_
    exact h
theorem g_151_34 {S : Nat × (Nat → Int32)} {d : Nat} {σ : Mem} {Q : MQ1} {x1 : Int32} {o2 : Option MV}  (h : ((6 ≤ x1 → Ev S (d + 3) 151 53 [some (.inr (some 60)), some (.inl 0), o2] [] σ Q) ∧ (¬ (6 ≤ x1) → (∃ j1 : Nat, 79 + x1 = nI j1 ∧ j1 < 86 ∧ (((¬ (σ 61 j1) = 1) → Ev S (d + 3) 151 34 [some (.inr (some 60)), some (.inl (x1 + 1)), o2] [] σ Q) ∧ (¬ (¬ (σ 61 j1) = 1) → Ec S (d + 2) 149 [.inr (some 60), .inl x1] σ (fun rv σ' => Ev S (d + 3) 151 44 [some (.inr (some 60)), some (.inl x1), o2] (rv ++ []) σ' Q))))))) : Ev S (d + 3) 151 34 [some (.inr (some 60)), some (.inl x1), o2] [] σ Q := by
  refine e_load q_151 rfl rfl rfl ?_
  refine e_push q_151 rfl ?_
  refine e_icmp (P := 6 ≤ x1) q_151 rfl m_c3 (fun c => ?_) (fun c => ?_)
  · replace h := h.1 c
    refine e_push q_151 rfl ?_
    refine e_store (ls' := [some (.inr (some 60)), some (.inl 0), o2]) q_151 rfl (Nat.le_of_ble_eq_true rfl) rfl rfl ?_
    exact h
  · replace h := h.2 c
    refine e_load q_151 rfl rfl rfl ?_
    refine e_load q_151 rfl rfl rfl ?_
    refine e_virt q_151 rfl rfl (Nat.le_of_ble_eq_true rfl) rfl rfl (Nat.le_of_ble_eq_true rfl) rfl ?_
    show Ev S (d + 2) 125 0 [some (.inr (some 60)), some (.inl x1)] [] σ _
    refine e_load q_125 rfl rfl rfl ?_
    refine e_getR q_125 rfl rfl rfl ?_
    refine e_push q_125 rfl ?_
    refine e_load q_125 rfl rfl rfl ?_
    refine e_bin (r := 79 + x1) q_125 rfl rfl ?_
    obtain ⟨j1, hjj1, hlj1, h⟩ := h
    refine e_iald q_125 rfl rfl (by decide) hjj1 hlj1 ?_
    refine e_push q_125 rfl ?_
    refine e_icmp (P := ¬ (σ 61 j1) = 1) q_125 rfl m_c1 (fun c => ?_) (fun c => ?_)
    · replace h := h.1 c
      refine e_push q_125 rfl ?_
      refine e_zreturn q_125 rfl rfl (by decide) ?_
      show Ev S (d + 3) 151 40 [some (.inr (some 60)), some (.inl x1), o2] [.inl 0] σ _
      refine e_if (P := (0 : Int32) = 0) q_151 rfl m_c0 (fun _ => ?_) (fun c => absurd (by decide) c)
      refine e_iinc (ls' := [some (.inr (some 60)), some (.inl (x1 + 1)), o2]) q_151 rfl rfl rfl ?_
      refine e_goto q_151 rfl ?_
      exact h
    · replace h := h.2 c
      refine e_push q_125 rfl ?_
      refine e_goto q_125 rfl ?_
      refine e_zreturn q_125 rfl rfl (by decide) ?_
      show Ev S (d + 3) 151 40 [some (.inr (some 60)), some (.inl x1), o2] [.inl 1] σ _
      refine e_if (P := (1 : Int32) = 0) q_151 rfl m_c0 (fun c => absurd c (by decide)) (fun _ => ?_)
      refine e_load q_151 rfl rfl rfl ?_
      refine e_load q_151 rfl rfl rfl ?_
      exact e_virt q_151 rfl rfl (Nat.le_of_ble_eq_true rfl) rfl rfl (Nat.le_of_ble_eq_true rfl) rfl h
theorem g_151_7 {S : Nat × (Nat → Int32)} {d : Nat} {σ : Mem} {Q : MQ1} {x1 : Int32} {x2 : Int32}  (h : (((σ 61 0) ≤ x2 → Ev S (d + 3) 151 2 [some (.inr (some 60)), some (.inl (x1 + 1)), some (.inl x2)] [] σ Q) ∧ (¬ ((σ 61 0) ≤ x2) → (∃ j2 : Nat, (1 + (9 * x2)) + 0 = nI j2 ∧ j2 < 86 ∧ (((¬ (σ 61 j2) = 2) → Ec S (d + 2) 150 [.inr (some 60), .inl x1, .inl x2] σ (fun rv σ' => Ev S (d + 3) 151 21 [some (.inr (some 60)), some (.inl x1), some (.inl x2)] (rv ++ []) σ' Q)) ∧ (¬ (¬ (σ 61 j2) = 2) → Ev S (d + 3) 151 7 [some (.inr (some 60)), some (.inl x1), some (.inl (x2 + 1))] [] σ Q)))))) : Ev S (d + 3) 151 7 [some (.inr (some 60)), some (.inl x1), some (.inl x2)] [] σ Q := by
  refine e_load q_151 rfl rfl rfl ?_
  refine e_load q_151 rfl rfl rfl ?_
  refine e_getR q_151 rfl rfl rfl ?_
  refine e_push q_151 rfl ?_
  refine e_iald (j := 0) q_151 rfl rfl (by decide) (by decide +kernel) (by decide) ?_
  refine e_icmp (P := (σ 61 0) ≤ x2) q_151 rfl m_c3 (fun c => ?_) (fun c => ?_)
  · replace h := h.1 c
    refine e_iinc (ls' := [some (.inr (some 60)), some (.inl (x1 + 1)), some (.inl x2)]) q_151 rfl rfl rfl ?_
    refine e_goto q_151 rfl ?_
    exact h
  · replace h := h.2 c
    refine e_load q_151 rfl rfl rfl ?_
    refine e_load q_151 rfl rfl rfl ?_
    refine e_virt q_151 rfl rfl (Nat.le_of_ble_eq_true rfl) rfl rfl (Nat.le_of_ble_eq_true rfl) rfl ?_
    show Ev S (d + 2) 124 0 [some (.inr (some 60)), some (.inl x2)] [] σ _
    refine e_load q_124 rfl rfl rfl ?_
    refine e_load q_124 rfl rfl rfl ?_
    refine e_push q_124 rfl ?_
    refine e_virt q_124 rfl rfl (Nat.le_of_ble_eq_true rfl) rfl rfl (Nat.le_of_ble_eq_true rfl) rfl ?_
    show Ev S (d + 1) 122 0 [some (.inr (some 60)), some (.inl x2), some (.inl 0)] [] σ _
    refine e_load q_122 rfl rfl rfl ?_
    refine e_getR q_122 rfl rfl rfl ?_
    refine e_push q_122 rfl ?_
    refine e_push q_122 rfl ?_
    refine e_load q_122 rfl rfl rfl ?_
    refine e_bin (r := 9 * x2) q_122 rfl rfl ?_
    refine e_bin (r := 1 + (9 * x2)) q_122 rfl rfl ?_
    refine e_load q_122 rfl rfl rfl ?_
    refine e_bin (r := (1 + (9 * x2)) + 0) q_122 rfl rfl ?_
    obtain ⟨j2, hjj2, hlj2, h⟩ := h
    refine e_iald q_122 rfl rfl (by decide) hjj2 hlj2 ?_
    refine e_ireturn q_122 rfl rfl ?_
    show Ev S (d + 2) 124 4 [some (.inr (some 60)), some (.inl x2)] [.inl (σ 61 j2)] σ _
    refine e_push q_124 rfl ?_
    refine e_icmp (P := ¬ (σ 61 j2) = 2) q_124 rfl m_c1 (fun c => ?_) (fun c => ?_)
    · replace h := h.1 c
      refine e_push q_124 rfl ?_
      refine e_zreturn q_124 rfl rfl (by decide) ?_
      show Ev S (d + 3) 151 16 [some (.inr (some 60)), some (.inl x1), some (.inl x2)] [.inl 0] σ _
      refine e_if (P := ¬ (0 : Int32) = 0) q_151 rfl m_c1 (fun c => absurd c (by decide)) (fun _ => ?_)
      refine e_load q_151 rfl rfl rfl ?_
      refine e_load q_151 rfl rfl rfl ?_
      refine e_load q_151 rfl rfl rfl ?_
      exact e_virt q_151 rfl rfl (Nat.le_of_ble_eq_true rfl) rfl rfl (Nat.le_of_ble_eq_true rfl) rfl h
    · replace h := h.2 c
      refine e_push q_124 rfl ?_
      refine e_goto q_124 rfl ?_
      refine e_zreturn q_124 rfl rfl (by decide) ?_
      show Ev S (d + 3) 151 16 [some (.inr (some 60)), some (.inl x1), some (.inl x2)] [.inl 1] σ _
      refine e_if (P := ¬ (1 : Int32) = 0) q_151 rfl m_c1 (fun _ => ?_) (fun c => absurd (by decide) c)
      refine e_iinc (ls' := [some (.inr (some 60)), some (.inl x1), some (.inl (x2 + 1))]) q_151 rfl rfl rfl ?_
      refine e_goto q_151 rfl ?_
      exact h
theorem g_151_53 {S : Nat × (Nat → Int32)} {d : Nat} {σ : Mem} {Q : MQ1} {x1 : Int32} {o2 : Option MV}  (h : ((6 ≤ x1 → Q [.inl 0] σ) ∧ (¬ (6 ≤ x1) → Ec S (d + 2) 149 [.inr (some 60), .inl x1] σ (fun rv σ' => Ev S (d + 3) 151 59 [some (.inr (some 60)), some (.inl x1), o2] (rv ++ []) σ' Q)))) : Ev S (d + 3) 151 53 [some (.inr (some 60)), some (.inl x1), o2] [] σ Q := by
  refine e_load q_151 rfl rfl rfl ?_
  refine e_push q_151 rfl ?_
  refine e_icmp (P := 6 ≤ x1) q_151 rfl m_c3 (fun c => ?_) (fun c => ?_)
  · replace h := h.1 c
    refine e_push q_151 rfl ?_
    exact e_ireturn q_151 rfl rfl h
  · replace h := h.2 c
    refine e_load q_151 rfl rfl rfl ?_
    refine e_load q_151 rfl rfl rfl ?_
    exact e_virt q_151 rfl rfl (Nat.le_of_ble_eq_true rfl) rfl rfl (Nat.le_of_ble_eq_true rfl) rfl h
theorem g_151_44 {S : Nat × (Nat → Int32)} {d : Nat} {σ : Mem} {Q : MQ1} {x1 : Int32} {o2 : Option MV} {y0 : Int32}  (h : ((y0 ≤ 0 → Ev S (d + 3) 151 34 [some (.inr (some 60)), some (.inl (x1 + 1)), o2] [] σ Q) ∧ (¬ (y0 ≤ 0) → Q [.inl (600 + x1)] σ))) : Ev S (d + 3) 151 44 [some (.inr (some 60)), some (.inl x1), o2] [.inl y0] σ Q := by
  refine e_if (P := y0 ≤ 0) q_151 rfl m_c5 (fun c => ?_) (fun c => ?_)
  · replace h := h.1 c
    refine e_iinc (ls' := [some (.inr (some 60)), some (.inl (x1 + 1)), o2]) q_151 rfl rfl rfl ?_
    refine e_goto q_151 rfl ?_
    exact h
  · replace h := h.2 c
    refine e_push q_151 rfl ?_
    refine e_load q_151 rfl rfl rfl ?_
    refine e_bin (r := 600 + x1) q_151 rfl rfl ?_
    exact e_ireturn q_151 rfl rfl h
theorem g_151_21 {S : Nat × (Nat → Int32)} {d : Nat} {σ : Mem} {Q : MQ1} {x1 : Int32} {x2 : Int32} {y0 : Int32}  (h : (((¬ y0 = 0) → Ev S (d + 3) 151 7 [some (.inr (some 60)), some (.inl x1), some (.inl (x2 + 1))] [] σ Q) ∧ (¬ (¬ y0 = 0) → Q [.inl ((100 * x1) + x2)] σ))) : Ev S (d + 3) 151 21 [some (.inr (some 60)), some (.inl x1), some (.inl x2)] [.inl y0] σ Q := by
  refine e_if (P := ¬ y0 = 0) q_151 rfl m_c1 (fun c => ?_) (fun c => ?_)
  · replace h := h.1 c
    refine e_iinc (ls' := [some (.inr (some 60)), some (.inl x1), some (.inl (x2 + 1))]) q_151 rfl rfl rfl ?_
    refine e_goto q_151 rfl ?_
    exact h
  · replace h := h.2 c
    refine e_push q_151 rfl ?_
    refine e_load q_151 rfl rfl rfl ?_
    refine e_bin (r := 100 * x1) q_151 rfl rfl ?_
    refine e_load q_151 rfl rfl rfl ?_
    refine e_bin (r := (100 * x1) + x2) q_151 rfl rfl ?_
    exact e_ireturn q_151 rfl rfl h
theorem g_151_59 {S : Nat × (Nat → Int32)} {d : Nat} {σ : Mem} {Q : MQ1} {x1 : Int32} {o2 : Option MV} {y0 : Int32}  (h : (∃ j1 : Nat, 73 + x1 = nI j1 ∧ j1 < 86 ∧ ((y0 ≤ (σ 61 j1) → Ev S (d + 3) 151 53 [some (.inr (some 60)), some (.inl (x1 + 1)), o2] [] σ Q) ∧ (¬ (y0 ≤ (σ 61 j1)) → Q [.inl (700 + x1)] σ)))) : Ev S (d + 3) 151 59 [some (.inr (some 60)), some (.inl x1), o2] [.inl y0] σ Q := by
  refine e_load q_151 rfl rfl rfl ?_
  refine e_getR q_151 rfl rfl rfl ?_
  refine e_push q_151 rfl ?_
  refine e_load q_151 rfl rfl rfl ?_
  refine e_bin (r := 73 + x1) q_151 rfl rfl ?_
  obtain ⟨j1, hjj1, hlj1, h⟩ := h
  refine e_iald q_151 rfl rfl (by decide) hjj1 hlj1 ?_
  refine e_icmp (P := y0 ≤ (σ 61 j1)) q_151 rfl m_c5 (fun c => ?_) (fun c => ?_)
  · replace h := h.1 c
    refine e_iinc (ls' := [some (.inr (some 60)), some (.inl (x1 + 1)), o2]) q_151 rfl rfl rfl ?_
    refine e_goto q_151 rfl ?_
    exact h
  · replace h := h.2 c
    refine e_push q_151 rfl ?_
    refine e_load q_151 rfl rfl rfl ?_
    refine e_bin (r := 700 + x1) q_151 rfl rfl ?_
    exact e_ireturn q_151 rfl rfl h
theorem g_152_0 {S : Nat × (Nat → Int32)} {d : Nat} {σ : Mem} {Q : MQ1}   (h : Ec S (d + 3) 151 [.inr (some 60)] σ (fun rv σ' => Ev S (d + 4) 152 2 [some (.inr (some 60))] (rv ++ []) σ' Q)) : Ev S (d + 4) 152 0 [some (.inr (some 60))] [] σ Q := by
  refine e_load q_152 rfl rfl rfl ?_
  exact e_virt q_152 rfl rfl (Nat.le_of_ble_eq_true rfl) rfl rfl (Nat.le_of_ble_eq_true rfl) rfl h
theorem g_152_2 {S : Nat × (Nat → Int32)} {d : Nat} {σ : Mem} {Q : MQ1} {o0 : Option MV} {y0 : Int32}  (h : Q [.inl y0] σ) : Ev S (d + 4) 152 2 [o0] [.inl y0] σ Q := by
  exact e_ireturn q_152 rfl rfl h
theorem g_153_0 {S : Nat × (Nat → Int32)} {d : Nat} {σ : Mem} {Q : MQ1} {x1 : Int32}  (h : ((x1 < 0 → Q [.inl (-100001)] (up σ 60 6 ((σ 60 6) + 1))) ∧ (¬ (x1 < 0) → ((5 < x1 → Q [.inl (-100001)] (up σ 60 6 ((σ 60 6) + 1))) ∧ (¬ (5 < x1) → Ec S (d + 2) 149 [.inr (some 60), .inl x1] σ (fun rv σ' => Ev S (d + 3) 153 6 [some (.inr (some 60)), some (.inl x1)] (rv ++ []) σ' Q)))))) : Ev S (d + 3) 153 0 [some (.inr (some 60)), some (.inl x1)] [] σ Q := by
  refine e_load q_153 rfl rfl rfl ?_
  refine e_stat q_153 rfl (Nat.le_of_ble_eq_true rfl) rfl rfl (Nat.le_of_ble_eq_true rfl) ?_
  show Ev S (d + 2) 121 0 [some (.inl x1)] [] σ _
  refine e_load q_121 rfl rfl rfl ?_
  refine e_push q_121 rfl ?_
  refine e_push q_121 rfl ?_
  refine e_stat q_121 rfl (Nat.le_of_ble_eq_true rfl) rfl rfl (Nat.le_of_ble_eq_true rfl) ?_
  show Ev S (d + 1) 119 0 [some (.inl x1), some (.inl 0), some (.inl 5)] [] σ _
  refine e_load q_119 rfl rfl rfl ?_
  refine e_load q_119 rfl rfl rfl ?_
  refine e_icmp (P := x1 < 0) q_119 rfl m_c2 (fun c => ?_) (fun c => ?_)
  · replace h := h.1 c
    refine e_push q_119 rfl ?_
    refine e_zreturn q_119 rfl rfl (by decide) ?_
    show Ev S (d + 2) 121 4 [some (.inl x1)] [.inl 0] σ _
    refine e_zreturn q_121 rfl rfl (by decide) ?_
    show Ev S (d + 3) 153 2 [some (.inr (some 60)), some (.inl x1)] [.inl 0] σ _
    refine e_if (P := (0 : Int32) = 0) q_153 rfl m_c0 (fun _ => ?_) (fun c => absurd (by decide) c)
    refine e_load q_153 rfl rfl rfl ?_
    refine e_push q_153 rfl ?_
    refine e_virt q_153 rfl rfl (Nat.le_of_ble_eq_true rfl) rfl rfl (Nat.le_of_ble_eq_true rfl) rfl ?_
    show Ev S (d + 2) 118 0 [some (.inr (some 60)), some (.inl (-100001))] [] σ _
    refine e_load q_118 rfl rfl rfl ?_
    refine e_dup q_118 rfl ?_
    refine e_getI q_118 rfl rfl rfl ?_
    refine e_push q_118 rfl ?_
    refine e_bin (r := (σ 60 6) + 1) q_118 rfl rfl ?_
    refine e_putI q_118 rfl rfl rfl ?_
    refine e_load q_118 rfl rfl rfl ?_
    refine e_ireturn q_118 rfl rfl ?_
    show Ev S (d + 3) 153 10 [some (.inr (some 60)), some (.inl x1)] [.inl (-100001)] (up σ 60 6 ((σ 60 6) + 1)) _
    exact e_ireturn q_153 rfl rfl h
  · replace h := h.2 c
    refine e_load q_119 rfl rfl rfl ?_
    refine e_load q_119 rfl rfl rfl ?_
    refine e_icmp (P := 5 < x1) q_119 rfl m_c4 (fun c => ?_) (fun c => ?_)
    · replace h := h.1 c
      refine e_push q_119 rfl ?_
      refine e_zreturn q_119 rfl rfl (by decide) ?_
      show Ev S (d + 2) 121 4 [some (.inl x1)] [.inl 0] σ _
      refine e_zreturn q_121 rfl rfl (by decide) ?_
      show Ev S (d + 3) 153 2 [some (.inr (some 60)), some (.inl x1)] [.inl 0] σ _
      refine e_if (P := (0 : Int32) = 0) q_153 rfl m_c0 (fun _ => ?_) (fun c => absurd (by decide) c)
      refine e_load q_153 rfl rfl rfl ?_
      refine e_push q_153 rfl ?_
      refine e_virt q_153 rfl rfl (Nat.le_of_ble_eq_true rfl) rfl rfl (Nat.le_of_ble_eq_true rfl) rfl ?_
      show Ev S (d + 2) 118 0 [some (.inr (some 60)), some (.inl (-100001))] [] σ _
      refine e_load q_118 rfl rfl rfl ?_
      refine e_dup q_118 rfl ?_
      refine e_getI q_118 rfl rfl rfl ?_
      refine e_push q_118 rfl ?_
      refine e_bin (r := (σ 60 6) + 1) q_118 rfl rfl ?_
      refine e_putI q_118 rfl rfl rfl ?_
      refine e_load q_118 rfl rfl rfl ?_
      refine e_ireturn q_118 rfl rfl ?_
      show Ev S (d + 3) 153 10 [some (.inr (some 60)), some (.inl x1)] [.inl (-100001)] (up σ 60 6 ((σ 60 6) + 1)) _
      exact e_ireturn q_153 rfl rfl h
    · replace h := h.2 c
      refine e_push q_119 rfl ?_
      refine e_goto q_119 rfl ?_
      refine e_zreturn q_119 rfl rfl (by decide) ?_
      show Ev S (d + 2) 121 4 [some (.inl x1)] [.inl 1] σ _
      refine e_zreturn q_121 rfl rfl (by decide) ?_
      show Ev S (d + 3) 153 2 [some (.inr (some 60)), some (.inl x1)] [.inl 1] σ _
      refine e_if (P := (1 : Int32) = 0) q_153 rfl m_c0 (fun c => absurd c (by decide)) (fun _ => ?_)
      refine e_load q_153 rfl rfl rfl ?_
      refine e_load q_153 rfl rfl rfl ?_
      exact e_virt q_153 rfl rfl (Nat.le_of_ble_eq_true rfl) rfl rfl (Nat.le_of_ble_eq_true rfl) rfl h
theorem g_153_6 {S : Nat × (Nat → Int32)} {d : Nat} {σ : Mem} {Q : MQ1} {o0 : Option MV} {o1 : Option MV} {y0 : Int32}  (h : Q [.inl y0] σ) : Ev S (d + 3) 153 6 [o0, o1] [.inl y0] σ Q := by
  refine e_goto q_153 rfl ?_
  exact e_ireturn q_153 rfl rfl h
theorem g_154_0 {S : Nat × (Nat → Int32)} {d : Nat} {σ : Mem} {Q : MQ1}   (h : Ev S (d + 3) 154 4 [some (.inr (some 60)), some (.inl 0), some (.inl 0)] [] σ Q) : Ev S (d + 3) 154 0 [some (.inr (some 60)), none, none] [] σ Q := by
  refine e_push q_154 rfl ?_
  refine e_store (ls' := [some (.inr (some 60)), some (.inl 0), none]) q_154 rfl (Nat.le_of_ble_eq_true rfl) rfl rfl ?_
  refine e_push q_154 rfl ?_
  refine e_store (ls' := [some (.inr (some 60)), some (.inl 0), some (.inl 0)]) q_154 rfl (Nat.le_of_ble_eq_true rfl) rfl rfl ?_
  exact h
theorem g_154_4 {S : Nat × (Nat → Int32)} {d : Nat} {σ : Mem} {Q : MQ1} {x1 : Int32} {x2 : Int32}  (h : ((6 ≤ x2 → Q [.inl x1] σ) ∧ (¬ (6 ≤ x2) → Ec S (d + 2) 149 [.inr (some 60), .inl x2] σ (fun rv σ' => Ev S (d + 3) 154 11 [some (.inr (some 60)), some (.inl x1), some (.inl x2)] (rv ++ [.inl x1]) σ' Q)))) : Ev S (d + 3) 154 4 [some (.inr (some 60)), some (.inl x1), some (.inl x2)] [] σ Q := by
  refine e_load q_154 rfl rfl rfl ?_
  refine e_push q_154 rfl ?_
  refine e_icmp (P := 6 ≤ x2) q_154 rfl m_c3 (fun c => ?_) (fun c => ?_)
  · replace h := h.1 c
    refine e_load q_154 rfl rfl rfl ?_
    exact e_ireturn q_154 rfl rfl h
  · replace h := h.2 c
    refine e_load q_154 rfl rfl rfl ?_
    refine e_load q_154 rfl rfl rfl ?_
    refine e_load q_154 rfl rfl rfl ?_
    exact e_virt q_154 rfl rfl (Nat.le_of_ble_eq_true rfl) rfl rfl (Nat.le_of_ble_eq_true rfl) rfl h
theorem g_154_11 {S : Nat × (Nat → Int32)} {d : Nat} {σ : Mem} {Q : MQ1} {o1 : Option MV} {x2 : Int32} {y0 : Int32} {y1 : Int32}  (h : Ec S (d + 2) 149 [.inr (some 60), .inl x2] σ (fun rv σ' => Ev S (d + 3) 154 14 [some (.inr (some 60)), o1, some (.inl x2)] (rv ++ [.inl y1, .inl y0]) σ' Q)) : Ev S (d + 3) 154 11 [some (.inr (some 60)), o1, some (.inl x2)] [.inl y1, .inl y0] σ Q := by
  refine e_load q_154 rfl rfl rfl ?_
  refine e_load q_154 rfl rfl rfl ?_
  exact e_virt q_154 rfl rfl (Nat.le_of_ble_eq_true rfl) rfl rfl (Nat.le_of_ble_eq_true rfl) rfl h
theorem g_154_14 {S : Nat × (Nat → Int32)} {d : Nat} {σ : Mem} {Q : MQ1} {o1 : Option MV} {x2 : Int32} {y0 : Int32} {y1 : Int32} {y2 : Int32}  (h : Ev S (d + 3) 154 4 [some (.inr (some 60)), some (.inl (y0 + (y1 * y2))), some (.inl (x2 + 1))] [] σ Q) : Ev S (d + 3) 154 14 [some (.inr (some 60)), o1, some (.inl x2)] [.inl y2, .inl y1, .inl y0] σ Q := by
  refine e_bin (r := y1 * y2) q_154 rfl rfl ?_
  refine e_bin (r := y0 + (y1 * y2)) q_154 rfl rfl ?_
  refine e_store (ls' := [some (.inr (some 60)), some (.inl (y0 + (y1 * y2))), some (.inl x2)]) q_154 rfl (Nat.le_of_ble_eq_true rfl) rfl rfl ?_
  refine e_iinc (ls' := [some (.inr (some 60)), some (.inl (y0 + (y1 * y2))), some (.inl (x2 + 1))]) q_154 rfl rfl rfl ?_
  refine e_goto q_154 rfl ?_
  exact h
theorem g_155_0 {S : Nat × (Nat → Int32)} {d : Nat} {σ : Mem} {Q : MQ1}   (h : Ec S (d + 3) 154 [.inr (some 60)] σ (fun rv σ' => Ev S (d + 4) 155 2 [some (.inr (some 60))] (rv ++ []) σ' Q)) : Ev S (d + 4) 155 0 [some (.inr (some 60))] [] σ Q := by
  refine e_load q_155 rfl rfl rfl ?_
  exact e_virt q_155 rfl rfl (Nat.le_of_ble_eq_true rfl) rfl rfl (Nat.le_of_ble_eq_true rfl) rfl h
theorem g_155_2 {S : Nat × (Nat → Int32)} {d : Nat} {σ : Mem} {Q : MQ1} {o0 : Option MV} {y0 : Int32}  (h : Q [.inl y0] σ) : Ev S (d + 4) 155 2 [o0] [.inl y0] σ Q := by
  exact e_ireturn q_155 rfl rfl h
theorem g_157_16 {S : Nat × (Nat → Int32)} {d : Nat} {σ : Mem} {Q : MQ1} {x1 : Int32} {y0 : Int32}  (h : ((y0 = 0 → Q [.inl 0] σ) ∧ (¬ (y0 = 0) → Ec S (d + 2) 150 [.inr (some 60), .inl 4, .inl x1] σ (fun rv σ' => Ev S (d + 3) 157 21 [some (.inr (some 60)), some (.inl x1)] (rv ++ []) σ' Q)))) : Ev S (d + 3) 157 16 [some (.inr (some 60)), some (.inl x1)] [.inl y0] σ Q := by
  refine e_if (P := y0 = 0) q_157 rfl m_c0 (fun c => ?_) (fun c => ?_)
  · replace h := h.1 c
    refine e_push q_157 rfl ?_
    exact e_zreturn q_157 rfl rfl (by decide) h
  · replace h := h.2 c
    refine e_load q_157 rfl rfl rfl ?_
    refine e_push q_157 rfl ?_
    refine e_load q_157 rfl rfl rfl ?_
    exact e_virt q_157 rfl rfl (Nat.le_of_ble_eq_true rfl) rfl rfl (Nat.le_of_ble_eq_true rfl) rfl h
theorem g_157_21 {S : Nat × (Nat → Int32)} {d : Nat} {σ : Mem} {Q : MQ1} {o0 : Option MV} {o1 : Option MV} {y0 : Int32}  (h : ((y0 = 0 → Q [.inl 0] σ) ∧ (¬ (y0 = 0) → Q [.inl 1] σ))) : Ev S (d + 3) 157 21 [o0, o1] [.inl y0] σ Q := by
  refine e_if (P := y0 = 0) q_157 rfl m_c0 (fun c => ?_) (fun c => ?_)
  · replace h := h.1 c
    refine e_push q_157 rfl ?_
    exact e_zreturn q_157 rfl rfl (by decide) h
  · replace h := h.2 c
    refine e_push q_157 rfl ?_
    refine e_goto q_157 rfl ?_
    exact e_zreturn q_157 rfl rfl (by decide) h
theorem g_158_0 {S : Nat × (Nat → Int32)} {d : Nat} {σ : Mem} {Q : MQ1} {x1 : Int32}  (h : (∃ j1 : Nat, (1 + (9 * x1)) + 3 = nI j1 ∧ j1 < 86 ∧ (((σ 61 j1) ≤ 0 → (∃ j2 : Nat, (1 + (9 * x1)) + 6 = nI j2 ∧ j2 < 86 ∧ (∃ j3 : Nat, (1 + (9 * x1)) + 6 = nI j3 ∧ j3 < 86 ∧ (∃ j4 : Nat, (1 + (9 * x1)) + 3 = nI j4 ∧ j4 < 86 ∧ (((¬ ((up σ 61 j3 ((σ 61 j2) + 1)) 61 j4) = 0) → (∃ j5 : Nat, (1 + (9 * x1)) + 6 = nI j5 ∧ j5 < 86 ∧ (∃ j6 : Nat, (1 + (9 * x1)) + 7 = nI j6 ∧ j6 < 86 ∧ (∃ j7 : Nat, (1 + (9 * x1)) + 6 = nI j7 ∧ j7 < 86 ∧ ((6 ≤ ((up (up σ 61 j3 ((σ 61 j2) + 1)) 61 j6 (((up σ 61 j3 ((σ 61 j2) + 1)) 61 j5) + 1)) 61 j7) → (∃ j8 : Nat, (1 + (9 * x1)) + 6 = nI j8 ∧ j8 < 86 ∧ ((6 ≤ ((up (up σ 61 j3 ((σ 61 j2) + 1)) 61 j6 (((up σ 61 j3 ((σ 61 j2) + 1)) 61 j5) + 1)) 61 j8) → Q [.inl 0] (up (up σ 61 j3 ((σ 61 j2) + 1)) 61 j6 (((up σ 61 j3 ((σ 61 j2) + 1)) 61 j5) + 1))) ∧ (¬ (6 ≤ ((up (up σ 61 j3 ((σ 61 j2) + 1)) 61 j6 (((up σ 61 j3 ((σ 61 j2) + 1)) 61 j5) + 1)) 61 j8)) → Q [.inl 1] (up (up σ 61 j3 ((σ 61 j2) + 1)) 61 j6 (((up σ 61 j3 ((σ 61 j2) + 1)) 61 j5) + 1)))))) ∧ (¬ (6 ≤ ((up (up σ 61 j3 ((σ 61 j2) + 1)) 61 j6 (((up σ 61 j3 ((σ 61 j2) + 1)) 61 j5) + 1)) 61 j7)) → (∃ j9 : Nat, (1 + (9 * x1)) + 6 = nI j9 ∧ j9 < 86 ∧ ((6 ≤ ((up (up σ 61 j3 ((σ 61 j2) + 1)) 61 j6 (((up σ 61 j3 ((σ 61 j2) + 1)) 61 j5) + 1)) 61 j9) → Ev S (d + 4) 158 0 [some (.inr (some 60)), some (.inl x1)] [] (up (up σ 61 j3 ((σ 61 j2) + 1)) 61 j6 (((up σ 61 j3 ((σ 61 j2) + 1)) 61 j5) + 1)) Q) ∧ (¬ (6 ≤ ((up (up σ 61 j3 ((σ 61 j2) + 1)) 61 j6 (((up σ 61 j3 ((σ 61 j2) + 1)) 61 j5) + 1)) 61 j9)) → (∃ j10 : Nat, (1 + (9 * x1)) + 7 = nI j10 ∧ j10 < 86 ∧ ((6 ≤ ((up (up σ 61 j3 ((σ 61 j2) + 1)) 61 j6 (((up σ 61 j3 ((σ 61 j2) + 1)) 61 j5) + 1)) 61 j10) → Ev S (d + 4) 158 0 [some (.inr (some 60)), some (.inl x1)] [] (up (up σ 61 j3 ((σ 61 j2) + 1)) 61 j6 (((up σ 61 j3 ((σ 61 j2) + 1)) 61 j5) + 1)) Q) ∧ (¬ (6 ≤ ((up (up σ 61 j3 ((σ 61 j2) + 1)) 61 j6 (((up σ 61 j3 ((σ 61 j2) + 1)) 61 j5) + 1)) 61 j10)) → Ec S (d + 2) 150 [.inr (some 60), .inl 2, .inl x1] (up (up σ 61 j3 ((σ 61 j2) + 1)) 61 j6 (((up σ 61 j3 ((σ 61 j2) + 1)) 61 j5) + 1)) (fun rv σ' => Ev S (d + 3) 157 16 [some (.inr (some 60)), some (.inl x1)] (rv ++ []) σ' (fun rv σ' => Ev S (d + 4) 158 48 [some (.inr (some 60)), some (.inl x1)] (rv ++ []) σ' Q)))))))))))))) ∧ (¬ (¬ ((up σ 61 j3 ((σ 61 j2) + 1)) 61 j4) = 0) → (∃ j11 : Nat, (1 + (9 * x1)) + 7 = nI j11 ∧ j11 < 86 ∧ (∃ j12 : Nat, (1 + (9 * x1)) + 6 = nI j12 ∧ j12 < 86 ∧ ((6 ≤ ((up (up σ 61 j3 ((σ 61 j2) + 1)) 61 j11 (-1)) 61 j12) → (∃ j13 : Nat, (1 + (9 * x1)) + 6 = nI j13 ∧ j13 < 86 ∧ ((6 ≤ ((up (up σ 61 j3 ((σ 61 j2) + 1)) 61 j11 (-1)) 61 j13) → Q [.inl 0] (up (up σ 61 j3 ((σ 61 j2) + 1)) 61 j11 (-1))) ∧ (¬ (6 ≤ ((up (up σ 61 j3 ((σ 61 j2) + 1)) 61 j11 (-1)) 61 j13)) → Q [.inl 1] (up (up σ 61 j3 ((σ 61 j2) + 1)) 61 j11 (-1)))))) ∧ (¬ (6 ≤ ((up (up σ 61 j3 ((σ 61 j2) + 1)) 61 j11 (-1)) 61 j12)) → (∃ j14 : Nat, (1 + (9 * x1)) + 6 = nI j14 ∧ j14 < 86 ∧ ((6 ≤ ((up (up σ 61 j3 ((σ 61 j2) + 1)) 61 j11 (-1)) 61 j14) → Ev S (d + 4) 158 0 [some (.inr (some 60)), some (.inl x1)] [] (up (up σ 61 j3 ((σ 61 j2) + 1)) 61 j11 (-1)) Q) ∧ (¬ (6 ≤ ((up (up σ 61 j3 ((σ 61 j2) + 1)) 61 j11 (-1)) 61 j14)) → (∃ j15 : Nat, (1 + (9 * x1)) + 7 = nI j15 ∧ j15 < 86 ∧ ((6 ≤ ((up (up σ 61 j3 ((σ 61 j2) + 1)) 61 j11 (-1)) 61 j15) → Ev S (d + 4) 158 0 [some (.inr (some 60)), some (.inl x1)] [] (up (up σ 61 j3 ((σ 61 j2) + 1)) 61 j11 (-1)) Q) ∧ (¬ (6 ≤ ((up (up σ 61 j3 ((σ 61 j2) + 1)) 61 j11 (-1)) 61 j15)) → Ec S (d + 2) 150 [.inr (some 60), .inl 2, .inl x1] (up (up σ 61 j3 ((σ 61 j2) + 1)) 61 j11 (-1)) (fun rv σ' => Ev S (d + 3) 157 16 [some (.inr (some 60)), some (.inl x1)] (rv ++ []) σ' (fun rv σ' => Ev S (d + 4) 158 48 [some (.inr (some 60)), some (.inl x1)] (rv ++ []) σ' Q)))))))))))))))))) ∧ (¬ ((σ 61 j1) ≤ 0) → (∃ j16 : Nat, (1 + (9 * x1)) + 7 = nI j16 ∧ j16 < 86 ∧ ((5 ≤ (σ 61 j16) → (∃ j17 : Nat, (1 + (9 * x1)) + 6 = nI j17 ∧ j17 < 86 ∧ (∃ j18 : Nat, (1 + (9 * x1)) + 6 = nI j18 ∧ j18 < 86 ∧ (∃ j19 : Nat, (1 + (9 * x1)) + 3 = nI j19 ∧ j19 < 86 ∧ (((¬ ((up σ 61 j18 ((σ 61 j17) + 1)) 61 j19) = 0) → (∃ j20 : Nat, (1 + (9 * x1)) + 6 = nI j20 ∧ j20 < 86 ∧ (∃ j21 : Nat, (1 + (9 * x1)) + 7 = nI j21 ∧ j21 < 86 ∧ (∃ j22 : Nat, (1 + (9 * x1)) + 6 = nI j22 ∧ j22 < 86 ∧ ((6 ≤ ((up (up σ 61 j18 ((σ 61 j17) + 1)) 61 j21 (((up σ 61 j18 ((σ 61 j17) + 1)) 61 j20) + 1)) 61 j22) → (∃ j23 : Nat, (1 + (9 * x1)) + 6 = nI j23 ∧ j23 < 86 ∧ ((6 ≤ ((up (up σ 61 j18 ((σ 61 j17) + 1)) 61 j21 (((up σ 61 j18 ((σ 61 j17) + 1)) 61 j20) + 1)) 61 j23) → Q [.inl 0] (up (up σ 61 j18 ((σ 61 j17) + 1)) 61 j21 (((up σ 61 j18 ((σ 61 j17) + 1)) 61 j20) + 1))) ∧ (¬ (6 ≤ ((up (up σ 61 j18 ((σ 61 j17) + 1)) 61 j21 (((up σ 61 j18 ((σ 61 j17) + 1)) 61 j20) + 1)) 61 j23)) → Q [.inl 1] (up (up σ 61 j18 ((σ 61 j17) + 1)) 61 j21 (((up σ 61 j18 ((σ 61 j17) + 1)) 61 j20) + 1)))))) ∧ (¬ (6 ≤ ((up (up σ 61 j18 ((σ 61 j17) + 1)) 61 j21 (((up σ 61 j18 ((σ 61 j17) + 1)) 61 j20) + 1)) 61 j22)) → (∃ j24 : Nat, (1 + (9 * x1)) + 6 = nI j24 ∧ j24 < 86 ∧ ((6 ≤ ((up (up σ 61 j18 ((σ 61 j17) + 1)) 61 j21 (((up σ 61 j18 ((σ 61 j17) + 1)) 61 j20) + 1)) 61 j24) → Ev S (d + 4) 158 0 [some (.inr (some 60)), some (.inl x1)] [] (up (up σ 61 j18 ((σ 61 j17) + 1)) 61 j21 (((up σ 61 j18 ((σ 61 j17) + 1)) 61 j20) + 1)) Q) ∧ (¬ (6 ≤ ((up (up σ 61 j18 ((σ 61 j17) + 1)) 61 j21 (((up σ 61 j18 ((σ 61 j17) + 1)) 61 j20) + 1)) 61 j24)) → (∃ j25 : Nat, (1 + (9 * x1)) + 7 = nI j25 ∧ j25 < 86 ∧ ((6 ≤ ((up (up σ 61 j18 ((σ 61 j17) + 1)) 61 j21 (((up σ 61 j18 ((σ 61 j17) + 1)) 61 j20) + 1)) 61 j25) → Ev S (d + 4) 158 0 [some (.inr (some 60)), some (.inl x1)] [] (up (up σ 61 j18 ((σ 61 j17) + 1)) 61 j21 (((up σ 61 j18 ((σ 61 j17) + 1)) 61 j20) + 1)) Q) ∧ (¬ (6 ≤ ((up (up σ 61 j18 ((σ 61 j17) + 1)) 61 j21 (((up σ 61 j18 ((σ 61 j17) + 1)) 61 j20) + 1)) 61 j25)) → Ec S (d + 2) 150 [.inr (some 60), .inl 2, .inl x1] (up (up σ 61 j18 ((σ 61 j17) + 1)) 61 j21 (((up σ 61 j18 ((σ 61 j17) + 1)) 61 j20) + 1)) (fun rv σ' => Ev S (d + 3) 157 16 [some (.inr (some 60)), some (.inl x1)] (rv ++ []) σ' (fun rv σ' => Ev S (d + 4) 158 48 [some (.inr (some 60)), some (.inl x1)] (rv ++ []) σ' Q)))))))))))))) ∧ (¬ (¬ ((up σ 61 j18 ((σ 61 j17) + 1)) 61 j19) = 0) → (∃ j26 : Nat, (1 + (9 * x1)) + 7 = nI j26 ∧ j26 < 86 ∧ (∃ j27 : Nat, (1 + (9 * x1)) + 6 = nI j27 ∧ j27 < 86 ∧ ((6 ≤ ((up (up σ 61 j18 ((σ 61 j17) + 1)) 61 j26 (-1)) 61 j27) → (∃ j28 : Nat, (1 + (9 * x1)) + 6 = nI j28 ∧ j28 < 86 ∧ ((6 ≤ ((up (up σ 61 j18 ((σ 61 j17) + 1)) 61 j26 (-1)) 61 j28) → Q [.inl 0] (up (up σ 61 j18 ((σ 61 j17) + 1)) 61 j26 (-1))) ∧ (¬ (6 ≤ ((up (up σ 61 j18 ((σ 61 j17) + 1)) 61 j26 (-1)) 61 j28)) → Q [.inl 1] (up (up σ 61 j18 ((σ 61 j17) + 1)) 61 j26 (-1)))))) ∧ (¬ (6 ≤ ((up (up σ 61 j18 ((σ 61 j17) + 1)) 61 j26 (-1)) 61 j27)) → (∃ j29 : Nat, (1 + (9 * x1)) + 6 = nI j29 ∧ j29 < 86 ∧ ((6 ≤ ((up (up σ 61 j18 ((σ 61 j17) + 1)) 61 j26 (-1)) 61 j29) → Ev S (d + 4) 158 0 [some (.inr (some 60)), some (.inl x1)] [] (up (up σ 61 j18 ((σ 61 j17) + 1)) 61 j26 (-1)) Q) ∧ (¬ (6 ≤ ((up (up σ 61 j18 ((σ 61 j17) + 1)) 61 j26 (-1)) 61 j29)) → (∃ j30 : Nat, (1 + (9 * x1)) + 7 = nI j30 ∧ j30 < 86 ∧ ((6 ≤ ((up (up σ 61 j18 ((σ 61 j17) + 1)) 61 j26 (-1)) 61 j30) → Ev S (d + 4) 158 0 [some (.inr (some 60)), some (.inl x1)] [] (up (up σ 61 j18 ((σ 61 j17) + 1)) 61 j26 (-1)) Q) ∧ (¬ (6 ≤ ((up (up σ 61 j18 ((σ 61 j17) + 1)) 61 j26 (-1)) 61 j30)) → Ec S (d + 2) 150 [.inr (some 60), .inl 2, .inl x1] (up (up σ 61 j18 ((σ 61 j17) + 1)) 61 j26 (-1)) (fun rv σ' => Ev S (d + 3) 157 16 [some (.inr (some 60)), some (.inl x1)] (rv ++ []) σ' (fun rv σ' => Ev S (d + 4) 158 48 [some (.inr (some 60)), some (.inl x1)] (rv ++ []) σ' Q)))))))))))))))))) ∧ (¬ (5 ≤ (σ 61 j16)) → (∃ j31 : Nat, (1 + (9 * x1)) + 7 = nI j31 ∧ j31 < 86 ∧ (∃ j32 : Nat, (1 + (9 * x1)) + 7 = nI j32 ∧ j32 < 86 ∧ (∃ j33 : Nat, (1 + (9 * x1)) + 6 = nI j33 ∧ j33 < 86 ∧ ((6 ≤ ((up σ 61 j32 ((σ 61 j31) + 1)) 61 j33) → (∃ j34 : Nat, (1 + (9 * x1)) + 6 = nI j34 ∧ j34 < 86 ∧ ((6 ≤ ((up σ 61 j32 ((σ 61 j31) + 1)) 61 j34) → Q [.inl 0] (up σ 61 j32 ((σ 61 j31) + 1))) ∧ (¬ (6 ≤ ((up σ 61 j32 ((σ 61 j31) + 1)) 61 j34)) → Q [.inl 1] (up σ 61 j32 ((σ 61 j31) + 1)))))) ∧ (¬ (6 ≤ ((up σ 61 j32 ((σ 61 j31) + 1)) 61 j33)) → (∃ j35 : Nat, (1 + (9 * x1)) + 6 = nI j35 ∧ j35 < 86 ∧ ((6 ≤ ((up σ 61 j32 ((σ 61 j31) + 1)) 61 j35) → Ev S (d + 4) 158 0 [some (.inr (some 60)), some (.inl x1)] [] (up σ 61 j32 ((σ 61 j31) + 1)) Q) ∧ (¬ (6 ≤ ((up σ 61 j32 ((σ 61 j31) + 1)) 61 j35)) → (∃ j36 : Nat, (1 + (9 * x1)) + 7 = nI j36 ∧ j36 < 86 ∧ ((6 ≤ ((up σ 61 j32 ((σ 61 j31) + 1)) 61 j36) → Ev S (d + 4) 158 0 [some (.inr (some 60)), some (.inl x1)] [] (up σ 61 j32 ((σ 61 j31) + 1)) Q) ∧ (¬ (6 ≤ ((up σ 61 j32 ((σ 61 j31) + 1)) 61 j36)) → Ec S (d + 2) 150 [.inr (some 60), .inl 2, .inl x1] (up σ 61 j32 ((σ 61 j31) + 1)) (fun rv σ' => Ev S (d + 3) 157 16 [some (.inr (some 60)), some (.inl x1)] (rv ++ []) σ' (fun rv σ' => Ev S (d + 4) 158 48 [some (.inr (some 60)), some (.inl x1)] (rv ++ []) σ' Q)))))))))))))))))))) : Ev S (d + 4) 158 0 [some (.inr (some 60)), some (.inl x1)] [] σ Q := by
  refine e_load q_158 rfl rfl rfl ?_
  refine e_load q_158 rfl rfl rfl ?_
  refine e_push q_158 rfl ?_
  refine e_virt q_158 rfl rfl (Nat.le_of_ble_eq_true rfl) rfl rfl (Nat.le_of_ble_eq_true rfl) rfl ?_
  show Ev S (d + 3) 122 0 [some (.inr (some 60)), some (.inl x1), some (.inl 3)] [] σ _
  refine e_load q_122 rfl rfl rfl ?_
  refine e_getR q_122 rfl rfl rfl ?_
  refine e_push q_122 rfl ?_
  refine e_push q_122 rfl ?_
  refine e_load q_122 rfl rfl rfl ?_
  refine e_bin (r := 9 * x1) q_122 rfl rfl ?_
  refine e_bin (r := 1 + (9 * x1)) q_122 rfl rfl ?_
  refine e_load q_122 rfl rfl rfl ?_
  refine e_bin (r := (1 + (9 * x1)) + 3) q_122 rfl rfl ?_
  obtain ⟨j1, hjj1, hlj1, h⟩ := h
  refine e_iald q_122 rfl rfl (by decide) hjj1 hlj1 ?_
  refine e_ireturn q_122 rfl rfl ?_
  show Ev S (d + 4) 158 4 [some (.inr (some 60)), some (.inl x1)] [.inl (σ 61 j1)] σ _
  refine e_if (P := (σ 61 j1) ≤ 0) q_158 rfl m_c5 (fun c => ?_) (fun c => ?_)
  · replace h := h.1 c
    refine e_load q_158 rfl rfl rfl ?_
    refine e_load q_158 rfl rfl rfl ?_
    refine e_push q_158 rfl ?_
    refine e_load q_158 rfl rfl rfl ?_
    refine e_load q_158 rfl rfl rfl ?_
    refine e_push q_158 rfl ?_
    refine e_virt q_158 rfl rfl (Nat.le_of_ble_eq_true rfl) rfl rfl (Nat.le_of_ble_eq_true rfl) rfl ?_
    show Ev S (d + 3) 122 0 [some (.inr (some 60)), some (.inl x1), some (.inl 6)] [] σ _
    refine e_load q_122 rfl rfl rfl ?_
    refine e_getR q_122 rfl rfl rfl ?_
    refine e_push q_122 rfl ?_
    refine e_push q_122 rfl ?_
    refine e_load q_122 rfl rfl rfl ?_
    refine e_bin (r := 9 * x1) q_122 rfl rfl ?_
    refine e_bin (r := 1 + (9 * x1)) q_122 rfl rfl ?_
    refine e_load q_122 rfl rfl rfl ?_
    refine e_bin (r := (1 + (9 * x1)) + 6) q_122 rfl rfl ?_
    obtain ⟨j2, hjj2, hlj2, h⟩ := h
    refine e_iald q_122 rfl rfl (by decide) hjj2 hlj2 ?_
    refine e_ireturn q_122 rfl rfl ?_
    show Ev S (d + 4) 158 29 [some (.inr (some 60)), some (.inl x1)] [.inl (σ 61 j2), .inl 6, .inl x1, .inr (some 60)] σ _
    refine e_push q_158 rfl ?_
    refine e_bin (r := (σ 61 j2) + 1) q_158 rfl rfl ?_
    refine e_virt q_158 rfl rfl (Nat.le_of_ble_eq_true rfl) rfl rfl (Nat.le_of_ble_eq_true rfl) rfl ?_
    show Ev S (d + 3) 123 0 [some (.inr (some 60)), some (.inl x1), some (.inl 6), some (.inl ((σ 61 j2) + 1))] [] σ _
    refine e_load q_123 rfl rfl rfl ?_
    refine e_getR q_123 rfl rfl rfl ?_
    refine e_push q_123 rfl ?_
    refine e_push q_123 rfl ?_
    refine e_load q_123 rfl rfl rfl ?_
    refine e_bin (r := 9 * x1) q_123 rfl rfl ?_
    refine e_bin (r := 1 + (9 * x1)) q_123 rfl rfl ?_
    refine e_load q_123 rfl rfl rfl ?_
    refine e_bin (r := (1 + (9 * x1)) + 6) q_123 rfl rfl ?_
    refine e_load q_123 rfl rfl rfl ?_
    obtain ⟨j3, hjj3, hlj3, h⟩ := h
    refine e_iast q_123 rfl rfl (by decide) hjj3 hlj3 ?_
    refine e_return q_123 rfl rfl ?_
    show Ev S (d + 4) 158 32 [some (.inr (some 60)), some (.inl x1)] [] (up σ 61 j3 ((σ 61 j2) + 1)) _
    refine e_load q_158 rfl rfl rfl ?_
    refine e_load q_158 rfl rfl rfl ?_
    refine e_push q_158 rfl ?_
    refine e_load q_158 rfl rfl rfl ?_
    refine e_load q_158 rfl rfl rfl ?_
    refine e_virt q_158 rfl rfl (Nat.le_of_ble_eq_true rfl) rfl rfl (Nat.le_of_ble_eq_true rfl) rfl ?_
    show Ev S (d + 3) 156 0 [some (.inr (some 60)), some (.inl x1)] [] (up σ 61 j3 ((σ 61 j2) + 1)) _
    refine e_load q_156 rfl rfl rfl ?_
    refine e_load q_156 rfl rfl rfl ?_
    refine e_push q_156 rfl ?_
    refine e_virt q_156 rfl rfl (Nat.le_of_ble_eq_true rfl) rfl rfl (Nat.le_of_ble_eq_true rfl) rfl ?_
    show Ev S (d + 2) 122 0 [some (.inr (some 60)), some (.inl x1), some (.inl 3)] [] (up σ 61 j3 ((σ 61 j2) + 1)) _
    refine e_load q_122 rfl rfl rfl ?_
    refine e_getR q_122 rfl rfl rfl ?_
    refine e_push q_122 rfl ?_
    refine e_push q_122 rfl ?_
    refine e_load q_122 rfl rfl rfl ?_
    refine e_bin (r := 9 * x1) q_122 rfl rfl ?_
    refine e_bin (r := 1 + (9 * x1)) q_122 rfl rfl ?_
    refine e_load q_122 rfl rfl rfl ?_
    refine e_bin (r := (1 + (9 * x1)) + 3) q_122 rfl rfl ?_
    obtain ⟨j4, hjj4, hlj4, h⟩ := h
    refine e_iald q_122 rfl rfl (by decide) hjj4 hlj4 ?_
    refine e_ireturn q_122 rfl rfl ?_
    show Ev S (d + 3) 156 4 [some (.inr (some 60)), some (.inl x1)] [.inl ((up σ 61 j3 ((σ 61 j2) + 1)) 61 j4)] (up σ 61 j3 ((σ 61 j2) + 1)) _
    refine e_if (P := ¬ ((up σ 61 j3 ((σ 61 j2) + 1)) 61 j4) = 0) q_156 rfl m_c1 (fun c => ?_) (fun c => ?_)
    · replace h := h.1 c
      refine e_load q_156 rfl rfl rfl ?_
      refine e_load q_156 rfl rfl rfl ?_
      refine e_push q_156 rfl ?_
      refine e_virt q_156 rfl rfl (Nat.le_of_ble_eq_true rfl) rfl rfl (Nat.le_of_ble_eq_true rfl) rfl ?_
      show Ev S (d + 2) 122 0 [some (.inr (some 60)), some (.inl x1), some (.inl 6)] [] (up σ 61 j3 ((σ 61 j2) + 1)) _
      refine e_load q_122 rfl rfl rfl ?_
      refine e_getR q_122 rfl rfl rfl ?_
      refine e_push q_122 rfl ?_
      refine e_push q_122 rfl ?_
      refine e_load q_122 rfl rfl rfl ?_
      refine e_bin (r := 9 * x1) q_122 rfl rfl ?_
      refine e_bin (r := 1 + (9 * x1)) q_122 rfl rfl ?_
      refine e_load q_122 rfl rfl rfl ?_
      refine e_bin (r := (1 + (9 * x1)) + 6) q_122 rfl rfl ?_
      obtain ⟨j5, hjj5, hlj5, h⟩ := h
      refine e_iald q_122 rfl rfl (by decide) hjj5 hlj5 ?_
      refine e_ireturn q_122 rfl rfl ?_
      show Ev S (d + 3) 156 11 [some (.inr (some 60)), some (.inl x1)] [.inl ((up σ 61 j3 ((σ 61 j2) + 1)) 61 j5)] (up σ 61 j3 ((σ 61 j2) + 1)) _
      refine e_push q_156 rfl ?_
      refine e_bin (r := ((up σ 61 j3 ((σ 61 j2) + 1)) 61 j5) + 1) q_156 rfl rfl ?_
      refine e_ireturn q_156 rfl rfl ?_
      show Ev S (d + 4) 158 38 [some (.inr (some 60)), some (.inl x1)] [.inl (((up σ 61 j3 ((σ 61 j2) + 1)) 61 j5) + 1), .inl 7, .inl x1, .inr (some 60)] (up σ 61 j3 ((σ 61 j2) + 1)) _
      refine e_virt q_158 rfl rfl (Nat.le_of_ble_eq_true rfl) rfl rfl (Nat.le_of_ble_eq_true rfl) rfl ?_
      show Ev S (d + 3) 123 0 [some (.inr (some 60)), some (.inl x1), some (.inl 7), some (.inl (((up σ 61 j3 ((σ 61 j2) + 1)) 61 j5) + 1))] [] (up σ 61 j3 ((σ 61 j2) + 1)) _
      refine e_load q_123 rfl rfl rfl ?_
      refine e_getR q_123 rfl rfl rfl ?_
      refine e_push q_123 rfl ?_
      refine e_push q_123 rfl ?_
      refine e_load q_123 rfl rfl rfl ?_
      refine e_bin (r := 9 * x1) q_123 rfl rfl ?_
      refine e_bin (r := 1 + (9 * x1)) q_123 rfl rfl ?_
      refine e_load q_123 rfl rfl rfl ?_
      refine e_bin (r := (1 + (9 * x1)) + 7) q_123 rfl rfl ?_
      refine e_load q_123 rfl rfl rfl ?_
      obtain ⟨j6, hjj6, hlj6, h⟩ := h
      refine e_iast q_123 rfl rfl (by decide) hjj6 hlj6 ?_
      refine e_return q_123 rfl rfl ?_
      show Ev S (d + 4) 158 39 [some (.inr (some 60)), some (.inl x1)] [] (up (up σ 61 j3 ((σ 61 j2) + 1)) 61 j6 (((up σ 61 j3 ((σ 61 j2) + 1)) 61 j5) + 1)) _
      refine e_load q_158 rfl rfl rfl ?_
      refine e_load q_158 rfl rfl rfl ?_
      refine e_push q_158 rfl ?_
      refine e_virt q_158 rfl rfl (Nat.le_of_ble_eq_true rfl) rfl rfl (Nat.le_of_ble_eq_true rfl) rfl ?_
      show Ev S (d + 3) 122 0 [some (.inr (some 60)), some (.inl x1), some (.inl 6)] [] (up (up σ 61 j3 ((σ 61 j2) + 1)) 61 j6 (((up σ 61 j3 ((σ 61 j2) + 1)) 61 j5) + 1)) _
      refine e_load q_122 rfl rfl rfl ?_
      refine e_getR q_122 rfl rfl rfl ?_
      refine e_push q_122 rfl ?_
      refine e_push q_122 rfl ?_
      refine e_load q_122 rfl rfl rfl ?_
      refine e_bin (r := 9 * x1) q_122 rfl rfl ?_
      refine e_bin (r := 1 + (9 * x1)) q_122 rfl rfl ?_
      refine e_load q_122 rfl rfl rfl ?_
      refine e_bin (r := (1 + (9 * x1)) + 6) q_122 rfl rfl ?_
      obtain ⟨j7, hjj7, hlj7, h⟩ := h
      refine e_iald q_122 rfl rfl (by decide) hjj7 hlj7 ?_
      refine e_ireturn q_122 rfl rfl ?_
      show Ev S (d + 4) 158 43 [some (.inr (some 60)), some (.inl x1)] [.inl ((up (up σ 61 j3 ((σ 61 j2) + 1)) 61 j6 (((up σ 61 j3 ((σ 61 j2) + 1)) 61 j5) + 1)) 61 j7)] (up (up σ 61 j3 ((σ 61 j2) + 1)) 61 j6 (((up σ 61 j3 ((σ 61 j2) + 1)) 61 j5) + 1)) _
      refine e_push q_158 rfl ?_
      refine e_icmp (P := 6 ≤ ((up (up σ 61 j3 ((σ 61 j2) + 1)) 61 j6 (((up σ 61 j3 ((σ 61 j2) + 1)) 61 j5) + 1)) 61 j7)) q_158 rfl m_c3 (fun c => ?_) (fun c => ?_)
      · replace h := h.1 c
        refine e_load q_158 rfl rfl rfl ?_
        refine e_load q_158 rfl rfl rfl ?_
        refine e_push q_158 rfl ?_
        refine e_virt q_158 rfl rfl (Nat.le_of_ble_eq_true rfl) rfl rfl (Nat.le_of_ble_eq_true rfl) rfl ?_
        show Ev S (d + 3) 122 0 [some (.inr (some 60)), some (.inl x1), some (.inl 6)] [] (up (up σ 61 j3 ((σ 61 j2) + 1)) 61 j6 (((up σ 61 j3 ((σ 61 j2) + 1)) 61 j5) + 1)) _
        refine e_load q_122 rfl rfl rfl ?_
        refine e_getR q_122 rfl rfl rfl ?_
        refine e_push q_122 rfl ?_
        refine e_push q_122 rfl ?_
        refine e_load q_122 rfl rfl rfl ?_
        refine e_bin (r := 9 * x1) q_122 rfl rfl ?_
        refine e_bin (r := 1 + (9 * x1)) q_122 rfl rfl ?_
        refine e_load q_122 rfl rfl rfl ?_
        refine e_bin (r := (1 + (9 * x1)) + 6) q_122 rfl rfl ?_
        obtain ⟨j8, hjj8, hlj8, h⟩ := h
        refine e_iald q_122 rfl rfl (by decide) hjj8 hlj8 ?_
        refine e_ireturn q_122 rfl rfl ?_
        show Ev S (d + 4) 158 53 [some (.inr (some 60)), some (.inl x1)] [.inl ((up (up σ 61 j3 ((σ 61 j2) + 1)) 61 j6 (((up σ 61 j3 ((σ 61 j2) + 1)) 61 j5) + 1)) 61 j8)] (up (up σ 61 j3 ((σ 61 j2) + 1)) 61 j6 (((up σ 61 j3 ((σ 61 j2) + 1)) 61 j5) + 1)) _
        refine e_push q_158 rfl ?_
        refine e_icmp (P := 6 ≤ ((up (up σ 61 j3 ((σ 61 j2) + 1)) 61 j6 (((up σ 61 j3 ((σ 61 j2) + 1)) 61 j5) + 1)) 61 j8)) q_158 rfl m_c3 (fun c => ?_) (fun c => ?_)
        · replace h := h.1 c
          refine e_push q_158 rfl ?_
          exact e_zreturn q_158 rfl rfl (by decide) h
        · replace h := h.2 c
          refine e_push q_158 rfl ?_
          refine e_goto q_158 rfl ?_
          exact e_zreturn q_158 rfl rfl (by decide) h
      · replace h := h.2 c
        refine e_load q_158 rfl rfl rfl ?_
        refine e_load q_158 rfl rfl rfl ?_
        refine e_virt q_158 rfl rfl (Nat.le_of_ble_eq_true rfl) rfl rfl (Nat.le_of_ble_eq_true rfl) rfl ?_
        show Ev S (d + 3) 157 0 [some (.inr (some 60)), some (.inl x1)] [] (up (up σ 61 j3 ((σ 61 j2) + 1)) 61 j6 (((up σ 61 j3 ((σ 61 j2) + 1)) 61 j5) + 1)) _
        refine e_load q_157 rfl rfl rfl ?_
        refine e_load q_157 rfl rfl rfl ?_
        refine e_push q_157 rfl ?_
        refine e_virt q_157 rfl rfl (Nat.le_of_ble_eq_true rfl) rfl rfl (Nat.le_of_ble_eq_true rfl) rfl ?_
        show Ev S (d + 2) 122 0 [some (.inr (some 60)), some (.inl x1), some (.inl 6)] [] (up (up σ 61 j3 ((σ 61 j2) + 1)) 61 j6 (((up σ 61 j3 ((σ 61 j2) + 1)) 61 j5) + 1)) _
        refine e_load q_122 rfl rfl rfl ?_
        refine e_getR q_122 rfl rfl rfl ?_
        refine e_push q_122 rfl ?_
        refine e_push q_122 rfl ?_
        refine e_load q_122 rfl rfl rfl ?_
        refine e_bin (r := 9 * x1) q_122 rfl rfl ?_
        refine e_bin (r := 1 + (9 * x1)) q_122 rfl rfl ?_
        refine e_load q_122 rfl rfl rfl ?_
        refine e_bin (r := (1 + (9 * x1)) + 6) q_122 rfl rfl ?_
        obtain ⟨j9, hjj9, hlj9, h⟩ := h
        refine e_iald q_122 rfl rfl (by decide) hjj9 hlj9 ?_
        refine e_ireturn q_122 rfl rfl ?_
        show Ev S (d + 3) 157 4 [some (.inr (some 60)), some (.inl x1)] [.inl ((up (up σ 61 j3 ((σ 61 j2) + 1)) 61 j6 (((up σ 61 j3 ((σ 61 j2) + 1)) 61 j5) + 1)) 61 j9)] (up (up σ 61 j3 ((σ 61 j2) + 1)) 61 j6 (((up σ 61 j3 ((σ 61 j2) + 1)) 61 j5) + 1)) _
        refine e_push q_157 rfl ?_
        refine e_icmp (P := 6 ≤ ((up (up σ 61 j3 ((σ 61 j2) + 1)) 61 j6 (((up σ 61 j3 ((σ 61 j2) + 1)) 61 j5) + 1)) 61 j9)) q_157 rfl m_c3 (fun c => ?_) (fun c => ?_)
        · replace h := h.1 c
          refine e_push q_157 rfl ?_
          refine e_zreturn q_157 rfl rfl (by decide) ?_
          show Ev S (d + 4) 158 48 [some (.inr (some 60)), some (.inl x1)] [.inl 0] (up (up σ 61 j3 ((σ 61 j2) + 1)) 61 j6 (((up σ 61 j3 ((σ 61 j2) + 1)) 61 j5) + 1)) _
          refine e_if (P := (0 : Int32) = 0) q_158 rfl m_c0 (fun _ => ?_) (fun c => absurd (by decide) c)
          exact h
        · replace h := h.2 c
          refine e_load q_157 rfl rfl rfl ?_
          refine e_load q_157 rfl rfl rfl ?_
          refine e_push q_157 rfl ?_
          refine e_virt q_157 rfl rfl (Nat.le_of_ble_eq_true rfl) rfl rfl (Nat.le_of_ble_eq_true rfl) rfl ?_
          show Ev S (d + 2) 122 0 [some (.inr (some 60)), some (.inl x1), some (.inl 7)] [] (up (up σ 61 j3 ((σ 61 j2) + 1)) 61 j6 (((up σ 61 j3 ((σ 61 j2) + 1)) 61 j5) + 1)) _
          refine e_load q_122 rfl rfl rfl ?_
          refine e_getR q_122 rfl rfl rfl ?_
          refine e_push q_122 rfl ?_
          refine e_push q_122 rfl ?_
          refine e_load q_122 rfl rfl rfl ?_
          refine e_bin (r := 9 * x1) q_122 rfl rfl ?_
          refine e_bin (r := 1 + (9 * x1)) q_122 rfl rfl ?_
          refine e_load q_122 rfl rfl rfl ?_
          refine e_bin (r := (1 + (9 * x1)) + 7) q_122 rfl rfl ?_
          obtain ⟨j10, hjj10, hlj10, h⟩ := h
          refine e_iald q_122 rfl rfl (by decide) hjj10 hlj10 ?_
          refine e_ireturn q_122 rfl rfl ?_
          show Ev S (d + 3) 157 10 [some (.inr (some 60)), some (.inl x1)] [.inl ((up (up σ 61 j3 ((σ 61 j2) + 1)) 61 j6 (((up σ 61 j3 ((σ 61 j2) + 1)) 61 j5) + 1)) 61 j10)] (up (up σ 61 j3 ((σ 61 j2) + 1)) 61 j6 (((up σ 61 j3 ((σ 61 j2) + 1)) 61 j5) + 1)) _
          refine e_push q_157 rfl ?_
          refine e_icmp (P := 6 ≤ ((up (up σ 61 j3 ((σ 61 j2) + 1)) 61 j6 (((up σ 61 j3 ((σ 61 j2) + 1)) 61 j5) + 1)) 61 j10)) q_157 rfl m_c3 (fun c => ?_) (fun c => ?_)
          · replace h := h.1 c
            refine e_push q_157 rfl ?_
            refine e_zreturn q_157 rfl rfl (by decide) ?_
            show Ev S (d + 4) 158 48 [some (.inr (some 60)), some (.inl x1)] [.inl 0] (up (up σ 61 j3 ((σ 61 j2) + 1)) 61 j6 (((up σ 61 j3 ((σ 61 j2) + 1)) 61 j5) + 1)) _
            refine e_if (P := (0 : Int32) = 0) q_158 rfl m_c0 (fun _ => ?_) (fun c => absurd (by decide) c)
            exact h
          · replace h := h.2 c
            refine e_load q_157 rfl rfl rfl ?_
            refine e_push q_157 rfl ?_
            refine e_load q_157 rfl rfl rfl ?_
            exact e_virt q_157 rfl rfl (Nat.le_of_ble_eq_true rfl) rfl rfl (Nat.le_of_ble_eq_true rfl) rfl h
    · replace h := h.2 c
      refine e_push q_156 rfl ?_
      refine e_goto q_156 rfl ?_
      refine e_ireturn q_156 rfl rfl ?_
      show Ev S (d + 4) 158 38 [some (.inr (some 60)), some (.inl x1)] [.inl (-1), .inl 7, .inl x1, .inr (some 60)] (up σ 61 j3 ((σ 61 j2) + 1)) _
      refine e_virt q_158 rfl rfl (Nat.le_of_ble_eq_true rfl) rfl rfl (Nat.le_of_ble_eq_true rfl) rfl ?_
      show Ev S (d + 3) 123 0 [some (.inr (some 60)), some (.inl x1), some (.inl 7), some (.inl (-1))] [] (up σ 61 j3 ((σ 61 j2) + 1)) _
      refine e_load q_123 rfl rfl rfl ?_
      refine e_getR q_123 rfl rfl rfl ?_
      refine e_push q_123 rfl ?_
      refine e_push q_123 rfl ?_
      refine e_load q_123 rfl rfl rfl ?_
      refine e_bin (r := 9 * x1) q_123 rfl rfl ?_
      refine e_bin (r := 1 + (9 * x1)) q_123 rfl rfl ?_
      refine e_load q_123 rfl rfl rfl ?_
      refine e_bin (r := (1 + (9 * x1)) + 7) q_123 rfl rfl ?_
      refine e_load q_123 rfl rfl rfl ?_
      obtain ⟨j11, hjj11, hlj11, h⟩ := h
      refine e_iast q_123 rfl rfl (by decide) hjj11 hlj11 ?_
      refine e_return q_123 rfl rfl ?_
      show Ev S (d + 4) 158 39 [some (.inr (some 60)), some (.inl x1)] [] (up (up σ 61 j3 ((σ 61 j2) + 1)) 61 j11 (-1)) _
      refine e_load q_158 rfl rfl rfl ?_
      refine e_load q_158 rfl rfl rfl ?_
      refine e_push q_158 rfl ?_
      refine e_virt q_158 rfl rfl (Nat.le_of_ble_eq_true rfl) rfl rfl (Nat.le_of_ble_eq_true rfl) rfl ?_
      show Ev S (d + 3) 122 0 [some (.inr (some 60)), some (.inl x1), some (.inl 6)] [] (up (up σ 61 j3 ((σ 61 j2) + 1)) 61 j11 (-1)) _
      refine e_load q_122 rfl rfl rfl ?_
      refine e_getR q_122 rfl rfl rfl ?_
      refine e_push q_122 rfl ?_
      refine e_push q_122 rfl ?_
      refine e_load q_122 rfl rfl rfl ?_
      refine e_bin (r := 9 * x1) q_122 rfl rfl ?_
      refine e_bin (r := 1 + (9 * x1)) q_122 rfl rfl ?_
      refine e_load q_122 rfl rfl rfl ?_
      refine e_bin (r := (1 + (9 * x1)) + 6) q_122 rfl rfl ?_
      obtain ⟨j12, hjj12, hlj12, h⟩ := h
      refine e_iald q_122 rfl rfl (by decide) hjj12 hlj12 ?_
      refine e_ireturn q_122 rfl rfl ?_
      show Ev S (d + 4) 158 43 [some (.inr (some 60)), some (.inl x1)] [.inl ((up (up σ 61 j3 ((σ 61 j2) + 1)) 61 j11 (-1)) 61 j12)] (up (up σ 61 j3 ((σ 61 j2) + 1)) 61 j11 (-1)) _
      refine e_push q_158 rfl ?_
      refine e_icmp (P := 6 ≤ ((up (up σ 61 j3 ((σ 61 j2) + 1)) 61 j11 (-1)) 61 j12)) q_158 rfl m_c3 (fun c => ?_) (fun c => ?_)
      · replace h := h.1 c
        refine e_load q_158 rfl rfl rfl ?_
        refine e_load q_158 rfl rfl rfl ?_
        refine e_push q_158 rfl ?_
        refine e_virt q_158 rfl rfl (Nat.le_of_ble_eq_true rfl) rfl rfl (Nat.le_of_ble_eq_true rfl) rfl ?_
        show Ev S (d + 3) 122 0 [some (.inr (some 60)), some (.inl x1), some (.inl 6)] [] (up (up σ 61 j3 ((σ 61 j2) + 1)) 61 j11 (-1)) _
        refine e_load q_122 rfl rfl rfl ?_
        refine e_getR q_122 rfl rfl rfl ?_
        refine e_push q_122 rfl ?_
        refine e_push q_122 rfl ?_
        refine e_load q_122 rfl rfl rfl ?_
        refine e_bin (r := 9 * x1) q_122 rfl rfl ?_
        refine e_bin (r := 1 + (9 * x1)) q_122 rfl rfl ?_
        refine e_load q_122 rfl rfl rfl ?_
        refine e_bin (r := (1 + (9 * x1)) + 6) q_122 rfl rfl ?_
        obtain ⟨j13, hjj13, hlj13, h⟩ := h
        refine e_iald q_122 rfl rfl (by decide) hjj13 hlj13 ?_
        refine e_ireturn q_122 rfl rfl ?_
        show Ev S (d + 4) 158 53 [some (.inr (some 60)), some (.inl x1)] [.inl ((up (up σ 61 j3 ((σ 61 j2) + 1)) 61 j11 (-1)) 61 j13)] (up (up σ 61 j3 ((σ 61 j2) + 1)) 61 j11 (-1)) _
        refine e_push q_158 rfl ?_
        refine e_icmp (P := 6 ≤ ((up (up σ 61 j3 ((σ 61 j2) + 1)) 61 j11 (-1)) 61 j13)) q_158 rfl m_c3 (fun c => ?_) (fun c => ?_)
        · replace h := h.1 c
          refine e_push q_158 rfl ?_
          exact e_zreturn q_158 rfl rfl (by decide) h
        · replace h := h.2 c
          refine e_push q_158 rfl ?_
          refine e_goto q_158 rfl ?_
          exact e_zreturn q_158 rfl rfl (by decide) h
      · replace h := h.2 c
        refine e_load q_158 rfl rfl rfl ?_
        refine e_load q_158 rfl rfl rfl ?_
        refine e_virt q_158 rfl rfl (Nat.le_of_ble_eq_true rfl) rfl rfl (Nat.le_of_ble_eq_true rfl) rfl ?_
        show Ev S (d + 3) 157 0 [some (.inr (some 60)), some (.inl x1)] [] (up (up σ 61 j3 ((σ 61 j2) + 1)) 61 j11 (-1)) _
        refine e_load q_157 rfl rfl rfl ?_
        refine e_load q_157 rfl rfl rfl ?_
        refine e_push q_157 rfl ?_
        refine e_virt q_157 rfl rfl (Nat.le_of_ble_eq_true rfl) rfl rfl (Nat.le_of_ble_eq_true rfl) rfl ?_
        show Ev S (d + 2) 122 0 [some (.inr (some 60)), some (.inl x1), some (.inl 6)] [] (up (up σ 61 j3 ((σ 61 j2) + 1)) 61 j11 (-1)) _
        refine e_load q_122 rfl rfl rfl ?_
        refine e_getR q_122 rfl rfl rfl ?_
        refine e_push q_122 rfl ?_
        refine e_push q_122 rfl ?_
        refine e_load q_122 rfl rfl rfl ?_
        refine e_bin (r := 9 * x1) q_122 rfl rfl ?_
        refine e_bin (r := 1 + (9 * x1)) q_122 rfl rfl ?_
        refine e_load q_122 rfl rfl rfl ?_
        refine e_bin (r := (1 + (9 * x1)) + 6) q_122 rfl rfl ?_
        obtain ⟨j14, hjj14, hlj14, h⟩ := h
        refine e_iald q_122 rfl rfl (by decide) hjj14 hlj14 ?_
        refine e_ireturn q_122 rfl rfl ?_
        show Ev S (d + 3) 157 4 [some (.inr (some 60)), some (.inl x1)] [.inl ((up (up σ 61 j3 ((σ 61 j2) + 1)) 61 j11 (-1)) 61 j14)] (up (up σ 61 j3 ((σ 61 j2) + 1)) 61 j11 (-1)) _
        refine e_push q_157 rfl ?_
        refine e_icmp (P := 6 ≤ ((up (up σ 61 j3 ((σ 61 j2) + 1)) 61 j11 (-1)) 61 j14)) q_157 rfl m_c3 (fun c => ?_) (fun c => ?_)
        · replace h := h.1 c
          refine e_push q_157 rfl ?_
          refine e_zreturn q_157 rfl rfl (by decide) ?_
          show Ev S (d + 4) 158 48 [some (.inr (some 60)), some (.inl x1)] [.inl 0] (up (up σ 61 j3 ((σ 61 j2) + 1)) 61 j11 (-1)) _
          refine e_if (P := (0 : Int32) = 0) q_158 rfl m_c0 (fun _ => ?_) (fun c => absurd (by decide) c)
          exact h
        · replace h := h.2 c
          refine e_load q_157 rfl rfl rfl ?_
          refine e_load q_157 rfl rfl rfl ?_
          refine e_push q_157 rfl ?_
          refine e_virt q_157 rfl rfl (Nat.le_of_ble_eq_true rfl) rfl rfl (Nat.le_of_ble_eq_true rfl) rfl ?_
          show Ev S (d + 2) 122 0 [some (.inr (some 60)), some (.inl x1), some (.inl 7)] [] (up (up σ 61 j3 ((σ 61 j2) + 1)) 61 j11 (-1)) _
          refine e_load q_122 rfl rfl rfl ?_
          refine e_getR q_122 rfl rfl rfl ?_
          refine e_push q_122 rfl ?_
          refine e_push q_122 rfl ?_
          refine e_load q_122 rfl rfl rfl ?_
          refine e_bin (r := 9 * x1) q_122 rfl rfl ?_
          refine e_bin (r := 1 + (9 * x1)) q_122 rfl rfl ?_
          refine e_load q_122 rfl rfl rfl ?_
          refine e_bin (r := (1 + (9 * x1)) + 7) q_122 rfl rfl ?_
          obtain ⟨j15, hjj15, hlj15, h⟩ := h
          refine e_iald q_122 rfl rfl (by decide) hjj15 hlj15 ?_
          refine e_ireturn q_122 rfl rfl ?_
          show Ev S (d + 3) 157 10 [some (.inr (some 60)), some (.inl x1)] [.inl ((up (up σ 61 j3 ((σ 61 j2) + 1)) 61 j11 (-1)) 61 j15)] (up (up σ 61 j3 ((σ 61 j2) + 1)) 61 j11 (-1)) _
          refine e_push q_157 rfl ?_
          refine e_icmp (P := 6 ≤ ((up (up σ 61 j3 ((σ 61 j2) + 1)) 61 j11 (-1)) 61 j15)) q_157 rfl m_c3 (fun c => ?_) (fun c => ?_)
          · replace h := h.1 c
            refine e_push q_157 rfl ?_
            refine e_zreturn q_157 rfl rfl (by decide) ?_
            show Ev S (d + 4) 158 48 [some (.inr (some 60)), some (.inl x1)] [.inl 0] (up (up σ 61 j3 ((σ 61 j2) + 1)) 61 j11 (-1)) _
            refine e_if (P := (0 : Int32) = 0) q_158 rfl m_c0 (fun _ => ?_) (fun c => absurd (by decide) c)
            exact h
          · replace h := h.2 c
            refine e_load q_157 rfl rfl rfl ?_
            refine e_push q_157 rfl ?_
            refine e_load q_157 rfl rfl rfl ?_
            exact e_virt q_157 rfl rfl (Nat.le_of_ble_eq_true rfl) rfl rfl (Nat.le_of_ble_eq_true rfl) rfl h
  · replace h := h.2 c
    refine e_load q_158 rfl rfl rfl ?_
    refine e_load q_158 rfl rfl rfl ?_
    refine e_push q_158 rfl ?_
    refine e_virt q_158 rfl rfl (Nat.le_of_ble_eq_true rfl) rfl rfl (Nat.le_of_ble_eq_true rfl) rfl ?_
    show Ev S (d + 3) 122 0 [some (.inr (some 60)), some (.inl x1), some (.inl 7)] [] σ _
    refine e_load q_122 rfl rfl rfl ?_
    refine e_getR q_122 rfl rfl rfl ?_
    refine e_push q_122 rfl ?_
    refine e_push q_122 rfl ?_
    refine e_load q_122 rfl rfl rfl ?_
    refine e_bin (r := 9 * x1) q_122 rfl rfl ?_
    refine e_bin (r := 1 + (9 * x1)) q_122 rfl rfl ?_
    refine e_load q_122 rfl rfl rfl ?_
    refine e_bin (r := (1 + (9 * x1)) + 7) q_122 rfl rfl ?_
    obtain ⟨j16, hjj16, hlj16, h⟩ := h
    refine e_iald q_122 rfl rfl (by decide) hjj16 hlj16 ?_
    refine e_ireturn q_122 rfl rfl ?_
    show Ev S (d + 4) 158 9 [some (.inr (some 60)), some (.inl x1)] [.inl (σ 61 j16)] σ _
    refine e_push q_158 rfl ?_
    refine e_icmp (P := 5 ≤ (σ 61 j16)) q_158 rfl m_c3 (fun c => ?_) (fun c => ?_)
    · replace h := h.1 c
      refine e_load q_158 rfl rfl rfl ?_
      refine e_load q_158 rfl rfl rfl ?_
      refine e_push q_158 rfl ?_
      refine e_load q_158 rfl rfl rfl ?_
      refine e_load q_158 rfl rfl rfl ?_
      refine e_push q_158 rfl ?_
      refine e_virt q_158 rfl rfl (Nat.le_of_ble_eq_true rfl) rfl rfl (Nat.le_of_ble_eq_true rfl) rfl ?_
      show Ev S (d + 3) 122 0 [some (.inr (some 60)), some (.inl x1), some (.inl 6)] [] σ _
      refine e_load q_122 rfl rfl rfl ?_
      refine e_getR q_122 rfl rfl rfl ?_
      refine e_push q_122 rfl ?_
      refine e_push q_122 rfl ?_
      refine e_load q_122 rfl rfl rfl ?_
      refine e_bin (r := 9 * x1) q_122 rfl rfl ?_
      refine e_bin (r := 1 + (9 * x1)) q_122 rfl rfl ?_
      refine e_load q_122 rfl rfl rfl ?_
      refine e_bin (r := (1 + (9 * x1)) + 6) q_122 rfl rfl ?_
      obtain ⟨j17, hjj17, hlj17, h⟩ := h
      refine e_iald q_122 rfl rfl (by decide) hjj17 hlj17 ?_
      refine e_ireturn q_122 rfl rfl ?_
      show Ev S (d + 4) 158 29 [some (.inr (some 60)), some (.inl x1)] [.inl (σ 61 j17), .inl 6, .inl x1, .inr (some 60)] σ _
      refine e_push q_158 rfl ?_
      refine e_bin (r := (σ 61 j17) + 1) q_158 rfl rfl ?_
      refine e_virt q_158 rfl rfl (Nat.le_of_ble_eq_true rfl) rfl rfl (Nat.le_of_ble_eq_true rfl) rfl ?_
      show Ev S (d + 3) 123 0 [some (.inr (some 60)), some (.inl x1), some (.inl 6), some (.inl ((σ 61 j17) + 1))] [] σ _
      refine e_load q_123 rfl rfl rfl ?_
      refine e_getR q_123 rfl rfl rfl ?_
      refine e_push q_123 rfl ?_
      refine e_push q_123 rfl ?_
      refine e_load q_123 rfl rfl rfl ?_
      refine e_bin (r := 9 * x1) q_123 rfl rfl ?_
      refine e_bin (r := 1 + (9 * x1)) q_123 rfl rfl ?_
      refine e_load q_123 rfl rfl rfl ?_
      refine e_bin (r := (1 + (9 * x1)) + 6) q_123 rfl rfl ?_
      refine e_load q_123 rfl rfl rfl ?_
      obtain ⟨j18, hjj18, hlj18, h⟩ := h
      refine e_iast q_123 rfl rfl (by decide) hjj18 hlj18 ?_
      refine e_return q_123 rfl rfl ?_
      show Ev S (d + 4) 158 32 [some (.inr (some 60)), some (.inl x1)] [] (up σ 61 j18 ((σ 61 j17) + 1)) _
      refine e_load q_158 rfl rfl rfl ?_
      refine e_load q_158 rfl rfl rfl ?_
      refine e_push q_158 rfl ?_
      refine e_load q_158 rfl rfl rfl ?_
      refine e_load q_158 rfl rfl rfl ?_
      refine e_virt q_158 rfl rfl (Nat.le_of_ble_eq_true rfl) rfl rfl (Nat.le_of_ble_eq_true rfl) rfl ?_
      show Ev S (d + 3) 156 0 [some (.inr (some 60)), some (.inl x1)] [] (up σ 61 j18 ((σ 61 j17) + 1)) _
      refine e_load q_156 rfl rfl rfl ?_
      refine e_load q_156 rfl rfl rfl ?_
      refine e_push q_156 rfl ?_
      refine e_virt q_156 rfl rfl (Nat.le_of_ble_eq_true rfl) rfl rfl (Nat.le_of_ble_eq_true rfl) rfl ?_
      show Ev S (d + 2) 122 0 [some (.inr (some 60)), some (.inl x1), some (.inl 3)] [] (up σ 61 j18 ((σ 61 j17) + 1)) _
      refine e_load q_122 rfl rfl rfl ?_
      refine e_getR q_122 rfl rfl rfl ?_
      refine e_push q_122 rfl ?_
      refine e_push q_122 rfl ?_
      refine e_load q_122 rfl rfl rfl ?_
      refine e_bin (r := 9 * x1) q_122 rfl rfl ?_
      refine e_bin (r := 1 + (9 * x1)) q_122 rfl rfl ?_
      refine e_load q_122 rfl rfl rfl ?_
      refine e_bin (r := (1 + (9 * x1)) + 3) q_122 rfl rfl ?_
      obtain ⟨j19, hjj19, hlj19, h⟩ := h
      refine e_iald q_122 rfl rfl (by decide) hjj19 hlj19 ?_
      refine e_ireturn q_122 rfl rfl ?_
      show Ev S (d + 3) 156 4 [some (.inr (some 60)), some (.inl x1)] [.inl ((up σ 61 j18 ((σ 61 j17) + 1)) 61 j19)] (up σ 61 j18 ((σ 61 j17) + 1)) _
      refine e_if (P := ¬ ((up σ 61 j18 ((σ 61 j17) + 1)) 61 j19) = 0) q_156 rfl m_c1 (fun c => ?_) (fun c => ?_)
      · replace h := h.1 c
        refine e_load q_156 rfl rfl rfl ?_
        refine e_load q_156 rfl rfl rfl ?_
        refine e_push q_156 rfl ?_
        refine e_virt q_156 rfl rfl (Nat.le_of_ble_eq_true rfl) rfl rfl (Nat.le_of_ble_eq_true rfl) rfl ?_
        show Ev S (d + 2) 122 0 [some (.inr (some 60)), some (.inl x1), some (.inl 6)] [] (up σ 61 j18 ((σ 61 j17) + 1)) _
        refine e_load q_122 rfl rfl rfl ?_
        refine e_getR q_122 rfl rfl rfl ?_
        refine e_push q_122 rfl ?_
        refine e_push q_122 rfl ?_
        refine e_load q_122 rfl rfl rfl ?_
        refine e_bin (r := 9 * x1) q_122 rfl rfl ?_
        refine e_bin (r := 1 + (9 * x1)) q_122 rfl rfl ?_
        refine e_load q_122 rfl rfl rfl ?_
        refine e_bin (r := (1 + (9 * x1)) + 6) q_122 rfl rfl ?_
        obtain ⟨j20, hjj20, hlj20, h⟩ := h
        refine e_iald q_122 rfl rfl (by decide) hjj20 hlj20 ?_
        refine e_ireturn q_122 rfl rfl ?_
        show Ev S (d + 3) 156 11 [some (.inr (some 60)), some (.inl x1)] [.inl ((up σ 61 j18 ((σ 61 j17) + 1)) 61 j20)] (up σ 61 j18 ((σ 61 j17) + 1)) _
        refine e_push q_156 rfl ?_
        refine e_bin (r := ((up σ 61 j18 ((σ 61 j17) + 1)) 61 j20) + 1) q_156 rfl rfl ?_
        refine e_ireturn q_156 rfl rfl ?_
        show Ev S (d + 4) 158 38 [some (.inr (some 60)), some (.inl x1)] [.inl (((up σ 61 j18 ((σ 61 j17) + 1)) 61 j20) + 1), .inl 7, .inl x1, .inr (some 60)] (up σ 61 j18 ((σ 61 j17) + 1)) _
        refine e_virt q_158 rfl rfl (Nat.le_of_ble_eq_true rfl) rfl rfl (Nat.le_of_ble_eq_true rfl) rfl ?_
        show Ev S (d + 3) 123 0 [some (.inr (some 60)), some (.inl x1), some (.inl 7), some (.inl (((up σ 61 j18 ((σ 61 j17) + 1)) 61 j20) + 1))] [] (up σ 61 j18 ((σ 61 j17) + 1)) _
        refine e_load q_123 rfl rfl rfl ?_
        refine e_getR q_123 rfl rfl rfl ?_
        refine e_push q_123 rfl ?_
        refine e_push q_123 rfl ?_
        refine e_load q_123 rfl rfl rfl ?_
        refine e_bin (r := 9 * x1) q_123 rfl rfl ?_
        refine e_bin (r := 1 + (9 * x1)) q_123 rfl rfl ?_
        refine e_load q_123 rfl rfl rfl ?_
        refine e_bin (r := (1 + (9 * x1)) + 7) q_123 rfl rfl ?_
        refine e_load q_123 rfl rfl rfl ?_
        obtain ⟨j21, hjj21, hlj21, h⟩ := h
        refine e_iast q_123 rfl rfl (by decide) hjj21 hlj21 ?_
        refine e_return q_123 rfl rfl ?_
        show Ev S (d + 4) 158 39 [some (.inr (some 60)), some (.inl x1)] [] (up (up σ 61 j18 ((σ 61 j17) + 1)) 61 j21 (((up σ 61 j18 ((σ 61 j17) + 1)) 61 j20) + 1)) _
        refine e_load q_158 rfl rfl rfl ?_
        refine e_load q_158 rfl rfl rfl ?_
        refine e_push q_158 rfl ?_
        refine e_virt q_158 rfl rfl (Nat.le_of_ble_eq_true rfl) rfl rfl (Nat.le_of_ble_eq_true rfl) rfl ?_
        show Ev S (d + 3) 122 0 [some (.inr (some 60)), some (.inl x1), some (.inl 6)] [] (up (up σ 61 j18 ((σ 61 j17) + 1)) 61 j21 (((up σ 61 j18 ((σ 61 j17) + 1)) 61 j20) + 1)) _
        refine e_load q_122 rfl rfl rfl ?_
        refine e_getR q_122 rfl rfl rfl ?_
        refine e_push q_122 rfl ?_
        refine e_push q_122 rfl ?_
        refine e_load q_122 rfl rfl rfl ?_
        refine e_bin (r := 9 * x1) q_122 rfl rfl ?_
        refine e_bin (r := 1 + (9 * x1)) q_122 rfl rfl ?_
        refine e_load q_122 rfl rfl rfl ?_
        refine e_bin (r := (1 + (9 * x1)) + 6) q_122 rfl rfl ?_
        obtain ⟨j22, hjj22, hlj22, h⟩ := h
        refine e_iald q_122 rfl rfl (by decide) hjj22 hlj22 ?_
        refine e_ireturn q_122 rfl rfl ?_
        show Ev S (d + 4) 158 43 [some (.inr (some 60)), some (.inl x1)] [.inl ((up (up σ 61 j18 ((σ 61 j17) + 1)) 61 j21 (((up σ 61 j18 ((σ 61 j17) + 1)) 61 j20) + 1)) 61 j22)] (up (up σ 61 j18 ((σ 61 j17) + 1)) 61 j21 (((up σ 61 j18 ((σ 61 j17) + 1)) 61 j20) + 1)) _
        refine e_push q_158 rfl ?_
        refine e_icmp (P := 6 ≤ ((up (up σ 61 j18 ((σ 61 j17) + 1)) 61 j21 (((up σ 61 j18 ((σ 61 j17) + 1)) 61 j20) + 1)) 61 j22)) q_158 rfl m_c3 (fun c => ?_) (fun c => ?_)
        · replace h := h.1 c
          refine e_load q_158 rfl rfl rfl ?_
          refine e_load q_158 rfl rfl rfl ?_
          refine e_push q_158 rfl ?_
          refine e_virt q_158 rfl rfl (Nat.le_of_ble_eq_true rfl) rfl rfl (Nat.le_of_ble_eq_true rfl) rfl ?_
          show Ev S (d + 3) 122 0 [some (.inr (some 60)), some (.inl x1), some (.inl 6)] [] (up (up σ 61 j18 ((σ 61 j17) + 1)) 61 j21 (((up σ 61 j18 ((σ 61 j17) + 1)) 61 j20) + 1)) _
          refine e_load q_122 rfl rfl rfl ?_
          refine e_getR q_122 rfl rfl rfl ?_
          refine e_push q_122 rfl ?_
          refine e_push q_122 rfl ?_
          refine e_load q_122 rfl rfl rfl ?_
          refine e_bin (r := 9 * x1) q_122 rfl rfl ?_
          refine e_bin (r := 1 + (9 * x1)) q_122 rfl rfl ?_
          refine e_load q_122 rfl rfl rfl ?_
          refine e_bin (r := (1 + (9 * x1)) + 6) q_122 rfl rfl ?_
          obtain ⟨j23, hjj23, hlj23, h⟩ := h
          refine e_iald q_122 rfl rfl (by decide) hjj23 hlj23 ?_
          refine e_ireturn q_122 rfl rfl ?_
          show Ev S (d + 4) 158 53 [some (.inr (some 60)), some (.inl x1)] [.inl ((up (up σ 61 j18 ((σ 61 j17) + 1)) 61 j21 (((up σ 61 j18 ((σ 61 j17) + 1)) 61 j20) + 1)) 61 j23)] (up (up σ 61 j18 ((σ 61 j17) + 1)) 61 j21 (((up σ 61 j18 ((σ 61 j17) + 1)) 61 j20) + 1)) _
          refine e_push q_158 rfl ?_
          refine e_icmp (P := 6 ≤ ((up (up σ 61 j18 ((σ 61 j17) + 1)) 61 j21 (((up σ 61 j18 ((σ 61 j17) + 1)) 61 j20) + 1)) 61 j23)) q_158 rfl m_c3 (fun c => ?_) (fun c => ?_)
          · replace h := h.1 c
            refine e_push q_158 rfl ?_
            exact e_zreturn q_158 rfl rfl (by decide) h
          · replace h := h.2 c
            refine e_push q_158 rfl ?_
            refine e_goto q_158 rfl ?_
            exact e_zreturn q_158 rfl rfl (by decide) h
        · replace h := h.2 c
          refine e_load q_158 rfl rfl rfl ?_
          refine e_load q_158 rfl rfl rfl ?_
          refine e_virt q_158 rfl rfl (Nat.le_of_ble_eq_true rfl) rfl rfl (Nat.le_of_ble_eq_true rfl) rfl ?_
          show Ev S (d + 3) 157 0 [some (.inr (some 60)), some (.inl x1)] [] (up (up σ 61 j18 ((σ 61 j17) + 1)) 61 j21 (((up σ 61 j18 ((σ 61 j17) + 1)) 61 j20) + 1)) _
          refine e_load q_157 rfl rfl rfl ?_
          refine e_load q_157 rfl rfl rfl ?_
          refine e_push q_157 rfl ?_
          refine e_virt q_157 rfl rfl (Nat.le_of_ble_eq_true rfl) rfl rfl (Nat.le_of_ble_eq_true rfl) rfl ?_
          show Ev S (d + 2) 122 0 [some (.inr (some 60)), some (.inl x1), some (.inl 6)] [] (up (up σ 61 j18 ((σ 61 j17) + 1)) 61 j21 (((up σ 61 j18 ((σ 61 j17) + 1)) 61 j20) + 1)) _
          refine e_load q_122 rfl rfl rfl ?_
          refine e_getR q_122 rfl rfl rfl ?_
          refine e_push q_122 rfl ?_
          refine e_push q_122 rfl ?_
          refine e_load q_122 rfl rfl rfl ?_
          refine e_bin (r := 9 * x1) q_122 rfl rfl ?_
          refine e_bin (r := 1 + (9 * x1)) q_122 rfl rfl ?_
          refine e_load q_122 rfl rfl rfl ?_
          refine e_bin (r := (1 + (9 * x1)) + 6) q_122 rfl rfl ?_
          obtain ⟨j24, hjj24, hlj24, h⟩ := h
          refine e_iald q_122 rfl rfl (by decide) hjj24 hlj24 ?_
          refine e_ireturn q_122 rfl rfl ?_
          show Ev S (d + 3) 157 4 [some (.inr (some 60)), some (.inl x1)] [.inl ((up (up σ 61 j18 ((σ 61 j17) + 1)) 61 j21 (((up σ 61 j18 ((σ 61 j17) + 1)) 61 j20) + 1)) 61 j24)] (up (up σ 61 j18 ((σ 61 j17) + 1)) 61 j21 (((up σ 61 j18 ((σ 61 j17) + 1)) 61 j20) + 1)) _
          refine e_push q_157 rfl ?_
          refine e_icmp (P := 6 ≤ ((up (up σ 61 j18 ((σ 61 j17) + 1)) 61 j21 (((up σ 61 j18 ((σ 61 j17) + 1)) 61 j20) + 1)) 61 j24)) q_157 rfl m_c3 (fun c => ?_) (fun c => ?_)
          · replace h := h.1 c
            refine e_push q_157 rfl ?_
            refine e_zreturn q_157 rfl rfl (by decide) ?_
            show Ev S (d + 4) 158 48 [some (.inr (some 60)), some (.inl x1)] [.inl 0] (up (up σ 61 j18 ((σ 61 j17) + 1)) 61 j21 (((up σ 61 j18 ((σ 61 j17) + 1)) 61 j20) + 1)) _
            refine e_if (P := (0 : Int32) = 0) q_158 rfl m_c0 (fun _ => ?_) (fun c => absurd (by decide) c)
            exact h
          · replace h := h.2 c
            refine e_load q_157 rfl rfl rfl ?_
            refine e_load q_157 rfl rfl rfl ?_
            refine e_push q_157 rfl ?_
            refine e_virt q_157 rfl rfl (Nat.le_of_ble_eq_true rfl) rfl rfl (Nat.le_of_ble_eq_true rfl) rfl ?_
            show Ev S (d + 2) 122 0 [some (.inr (some 60)), some (.inl x1), some (.inl 7)] [] (up (up σ 61 j18 ((σ 61 j17) + 1)) 61 j21 (((up σ 61 j18 ((σ 61 j17) + 1)) 61 j20) + 1)) _
            refine e_load q_122 rfl rfl rfl ?_
            refine e_getR q_122 rfl rfl rfl ?_
            refine e_push q_122 rfl ?_
            refine e_push q_122 rfl ?_
            refine e_load q_122 rfl rfl rfl ?_
            refine e_bin (r := 9 * x1) q_122 rfl rfl ?_
            refine e_bin (r := 1 + (9 * x1)) q_122 rfl rfl ?_
            refine e_load q_122 rfl rfl rfl ?_
            refine e_bin (r := (1 + (9 * x1)) + 7) q_122 rfl rfl ?_
            obtain ⟨j25, hjj25, hlj25, h⟩ := h
            refine e_iald q_122 rfl rfl (by decide) hjj25 hlj25 ?_
            refine e_ireturn q_122 rfl rfl ?_
            show Ev S (d + 3) 157 10 [some (.inr (some 60)), some (.inl x1)] [.inl ((up (up σ 61 j18 ((σ 61 j17) + 1)) 61 j21 (((up σ 61 j18 ((σ 61 j17) + 1)) 61 j20) + 1)) 61 j25)] (up (up σ 61 j18 ((σ 61 j17) + 1)) 61 j21 (((up σ 61 j18 ((σ 61 j17) + 1)) 61 j20) + 1)) _
            refine e_push q_157 rfl ?_
            refine e_icmp (P := 6 ≤ ((up (up σ 61 j18 ((σ 61 j17) + 1)) 61 j21 (((up σ 61 j18 ((σ 61 j17) + 1)) 61 j20) + 1)) 61 j25)) q_157 rfl m_c3 (fun c => ?_) (fun c => ?_)
            · replace h := h.1 c
              refine e_push q_157 rfl ?_
              refine e_zreturn q_157 rfl rfl (by decide) ?_
              show Ev S (d + 4) 158 48 [some (.inr (some 60)), some (.inl x1)] [.inl 0] (up (up σ 61 j18 ((σ 61 j17) + 1)) 61 j21 (((up σ 61 j18 ((σ 61 j17) + 1)) 61 j20) + 1)) _
              refine e_if (P := (0 : Int32) = 0) q_158 rfl m_c0 (fun _ => ?_) (fun c => absurd (by decide) c)
              exact h
            · replace h := h.2 c
              refine e_load q_157 rfl rfl rfl ?_
              refine e_push q_157 rfl ?_
              refine e_load q_157 rfl rfl rfl ?_
              exact e_virt q_157 rfl rfl (Nat.le_of_ble_eq_true rfl) rfl rfl (Nat.le_of_ble_eq_true rfl) rfl h
      · replace h := h.2 c
        refine e_push q_156 rfl ?_
        refine e_goto q_156 rfl ?_
        refine e_ireturn q_156 rfl rfl ?_
        show Ev S (d + 4) 158 38 [some (.inr (some 60)), some (.inl x1)] [.inl (-1), .inl 7, .inl x1, .inr (some 60)] (up σ 61 j18 ((σ 61 j17) + 1)) _
        refine e_virt q_158 rfl rfl (Nat.le_of_ble_eq_true rfl) rfl rfl (Nat.le_of_ble_eq_true rfl) rfl ?_
        show Ev S (d + 3) 123 0 [some (.inr (some 60)), some (.inl x1), some (.inl 7), some (.inl (-1))] [] (up σ 61 j18 ((σ 61 j17) + 1)) _
        refine e_load q_123 rfl rfl rfl ?_
        refine e_getR q_123 rfl rfl rfl ?_
        refine e_push q_123 rfl ?_
        refine e_push q_123 rfl ?_
        refine e_load q_123 rfl rfl rfl ?_
        refine e_bin (r := 9 * x1) q_123 rfl rfl ?_
        refine e_bin (r := 1 + (9 * x1)) q_123 rfl rfl ?_
        refine e_load q_123 rfl rfl rfl ?_
        refine e_bin (r := (1 + (9 * x1)) + 7) q_123 rfl rfl ?_
        refine e_load q_123 rfl rfl rfl ?_
        obtain ⟨j26, hjj26, hlj26, h⟩ := h
        refine e_iast q_123 rfl rfl (by decide) hjj26 hlj26 ?_
        refine e_return q_123 rfl rfl ?_
        show Ev S (d + 4) 158 39 [some (.inr (some 60)), some (.inl x1)] [] (up (up σ 61 j18 ((σ 61 j17) + 1)) 61 j26 (-1)) _
        refine e_load q_158 rfl rfl rfl ?_
        refine e_load q_158 rfl rfl rfl ?_
        refine e_push q_158 rfl ?_
        refine e_virt q_158 rfl rfl (Nat.le_of_ble_eq_true rfl) rfl rfl (Nat.le_of_ble_eq_true rfl) rfl ?_
        show Ev S (d + 3) 122 0 [some (.inr (some 60)), some (.inl x1), some (.inl 6)] [] (up (up σ 61 j18 ((σ 61 j17) + 1)) 61 j26 (-1)) _
        refine e_load q_122 rfl rfl rfl ?_
        refine e_getR q_122 rfl rfl rfl ?_
        refine e_push q_122 rfl ?_
        refine e_push q_122 rfl ?_
        refine e_load q_122 rfl rfl rfl ?_
        refine e_bin (r := 9 * x1) q_122 rfl rfl ?_
        refine e_bin (r := 1 + (9 * x1)) q_122 rfl rfl ?_
        refine e_load q_122 rfl rfl rfl ?_
        refine e_bin (r := (1 + (9 * x1)) + 6) q_122 rfl rfl ?_
        obtain ⟨j27, hjj27, hlj27, h⟩ := h
        refine e_iald q_122 rfl rfl (by decide) hjj27 hlj27 ?_
        refine e_ireturn q_122 rfl rfl ?_
        show Ev S (d + 4) 158 43 [some (.inr (some 60)), some (.inl x1)] [.inl ((up (up σ 61 j18 ((σ 61 j17) + 1)) 61 j26 (-1)) 61 j27)] (up (up σ 61 j18 ((σ 61 j17) + 1)) 61 j26 (-1)) _
        refine e_push q_158 rfl ?_
        refine e_icmp (P := 6 ≤ ((up (up σ 61 j18 ((σ 61 j17) + 1)) 61 j26 (-1)) 61 j27)) q_158 rfl m_c3 (fun c => ?_) (fun c => ?_)
        · replace h := h.1 c
          refine e_load q_158 rfl rfl rfl ?_
          refine e_load q_158 rfl rfl rfl ?_
          refine e_push q_158 rfl ?_
          refine e_virt q_158 rfl rfl (Nat.le_of_ble_eq_true rfl) rfl rfl (Nat.le_of_ble_eq_true rfl) rfl ?_
          show Ev S (d + 3) 122 0 [some (.inr (some 60)), some (.inl x1), some (.inl 6)] [] (up (up σ 61 j18 ((σ 61 j17) + 1)) 61 j26 (-1)) _
          refine e_load q_122 rfl rfl rfl ?_
          refine e_getR q_122 rfl rfl rfl ?_
          refine e_push q_122 rfl ?_
          refine e_push q_122 rfl ?_
          refine e_load q_122 rfl rfl rfl ?_
          refine e_bin (r := 9 * x1) q_122 rfl rfl ?_
          refine e_bin (r := 1 + (9 * x1)) q_122 rfl rfl ?_
          refine e_load q_122 rfl rfl rfl ?_
          refine e_bin (r := (1 + (9 * x1)) + 6) q_122 rfl rfl ?_
          obtain ⟨j28, hjj28, hlj28, h⟩ := h
          refine e_iald q_122 rfl rfl (by decide) hjj28 hlj28 ?_
          refine e_ireturn q_122 rfl rfl ?_
          show Ev S (d + 4) 158 53 [some (.inr (some 60)), some (.inl x1)] [.inl ((up (up σ 61 j18 ((σ 61 j17) + 1)) 61 j26 (-1)) 61 j28)] (up (up σ 61 j18 ((σ 61 j17) + 1)) 61 j26 (-1)) _
          refine e_push q_158 rfl ?_
          refine e_icmp (P := 6 ≤ ((up (up σ 61 j18 ((σ 61 j17) + 1)) 61 j26 (-1)) 61 j28)) q_158 rfl m_c3 (fun c => ?_) (fun c => ?_)
          · replace h := h.1 c
            refine e_push q_158 rfl ?_
            exact e_zreturn q_158 rfl rfl (by decide) h
          · replace h := h.2 c
            refine e_push q_158 rfl ?_
            refine e_goto q_158 rfl ?_
            exact e_zreturn q_158 rfl rfl (by decide) h
        · replace h := h.2 c
          refine e_load q_158 rfl rfl rfl ?_
          refine e_load q_158 rfl rfl rfl ?_
          refine e_virt q_158 rfl rfl (Nat.le_of_ble_eq_true rfl) rfl rfl (Nat.le_of_ble_eq_true rfl) rfl ?_
          show Ev S (d + 3) 157 0 [some (.inr (some 60)), some (.inl x1)] [] (up (up σ 61 j18 ((σ 61 j17) + 1)) 61 j26 (-1)) _
          refine e_load q_157 rfl rfl rfl ?_
          refine e_load q_157 rfl rfl rfl ?_
          refine e_push q_157 rfl ?_
          refine e_virt q_157 rfl rfl (Nat.le_of_ble_eq_true rfl) rfl rfl (Nat.le_of_ble_eq_true rfl) rfl ?_
          show Ev S (d + 2) 122 0 [some (.inr (some 60)), some (.inl x1), some (.inl 6)] [] (up (up σ 61 j18 ((σ 61 j17) + 1)) 61 j26 (-1)) _
          refine e_load q_122 rfl rfl rfl ?_
          refine e_getR q_122 rfl rfl rfl ?_
          refine e_push q_122 rfl ?_
          refine e_push q_122 rfl ?_
          refine e_load q_122 rfl rfl rfl ?_
          refine e_bin (r := 9 * x1) q_122 rfl rfl ?_
          refine e_bin (r := 1 + (9 * x1)) q_122 rfl rfl ?_
          refine e_load q_122 rfl rfl rfl ?_
          refine e_bin (r := (1 + (9 * x1)) + 6) q_122 rfl rfl ?_
          obtain ⟨j29, hjj29, hlj29, h⟩ := h
          refine e_iald q_122 rfl rfl (by decide) hjj29 hlj29 ?_
          refine e_ireturn q_122 rfl rfl ?_
          show Ev S (d + 3) 157 4 [some (.inr (some 60)), some (.inl x1)] [.inl ((up (up σ 61 j18 ((σ 61 j17) + 1)) 61 j26 (-1)) 61 j29)] (up (up σ 61 j18 ((σ 61 j17) + 1)) 61 j26 (-1)) _
          refine e_push q_157 rfl ?_
          refine e_icmp (P := 6 ≤ ((up (up σ 61 j18 ((σ 61 j17) + 1)) 61 j26 (-1)) 61 j29)) q_157 rfl m_c3 (fun c => ?_) (fun c => ?_)
          · replace h := h.1 c
            refine e_push q_157 rfl ?_
            refine e_zreturn q_157 rfl rfl (by decide) ?_
            show Ev S (d + 4) 158 48 [some (.inr (some 60)), some (.inl x1)] [.inl 0] (up (up σ 61 j18 ((σ 61 j17) + 1)) 61 j26 (-1)) _
            refine e_if (P := (0 : Int32) = 0) q_158 rfl m_c0 (fun _ => ?_) (fun c => absurd (by decide) c)
            exact h
          · replace h := h.2 c
            refine e_load q_157 rfl rfl rfl ?_
            refine e_load q_157 rfl rfl rfl ?_
            refine e_push q_157 rfl ?_
            refine e_virt q_157 rfl rfl (Nat.le_of_ble_eq_true rfl) rfl rfl (Nat.le_of_ble_eq_true rfl) rfl ?_
            show Ev S (d + 2) 122 0 [some (.inr (some 60)), some (.inl x1), some (.inl 7)] [] (up (up σ 61 j18 ((σ 61 j17) + 1)) 61 j26 (-1)) _
            refine e_load q_122 rfl rfl rfl ?_
            refine e_getR q_122 rfl rfl rfl ?_
            refine e_push q_122 rfl ?_
            refine e_push q_122 rfl ?_
            refine e_load q_122 rfl rfl rfl ?_
            refine e_bin (r := 9 * x1) q_122 rfl rfl ?_
            refine e_bin (r := 1 + (9 * x1)) q_122 rfl rfl ?_
            refine e_load q_122 rfl rfl rfl ?_
            refine e_bin (r := (1 + (9 * x1)) + 7) q_122 rfl rfl ?_
            obtain ⟨j30, hjj30, hlj30, h⟩ := h
            refine e_iald q_122 rfl rfl (by decide) hjj30 hlj30 ?_
            refine e_ireturn q_122 rfl rfl ?_
            show Ev S (d + 3) 157 10 [some (.inr (some 60)), some (.inl x1)] [.inl ((up (up σ 61 j18 ((σ 61 j17) + 1)) 61 j26 (-1)) 61 j30)] (up (up σ 61 j18 ((σ 61 j17) + 1)) 61 j26 (-1)) _
            refine e_push q_157 rfl ?_
            refine e_icmp (P := 6 ≤ ((up (up σ 61 j18 ((σ 61 j17) + 1)) 61 j26 (-1)) 61 j30)) q_157 rfl m_c3 (fun c => ?_) (fun c => ?_)
            · replace h := h.1 c
              refine e_push q_157 rfl ?_
              refine e_zreturn q_157 rfl rfl (by decide) ?_
              show Ev S (d + 4) 158 48 [some (.inr (some 60)), some (.inl x1)] [.inl 0] (up (up σ 61 j18 ((σ 61 j17) + 1)) 61 j26 (-1)) _
              refine e_if (P := (0 : Int32) = 0) q_158 rfl m_c0 (fun _ => ?_) (fun c => absurd (by decide) c)
              exact h
            · replace h := h.2 c
              refine e_load q_157 rfl rfl rfl ?_
              refine e_push q_157 rfl ?_
              refine e_load q_157 rfl rfl rfl ?_
              exact e_virt q_157 rfl rfl (Nat.le_of_ble_eq_true rfl) rfl rfl (Nat.le_of_ble_eq_true rfl) rfl h
    · replace h := h.2 c
      refine e_load q_158 rfl rfl rfl ?_
      refine e_load q_158 rfl rfl rfl ?_
      refine e_push q_158 rfl ?_
      refine e_load q_158 rfl rfl rfl ?_
      refine e_load q_158 rfl rfl rfl ?_
      refine e_push q_158 rfl ?_
      refine e_virt q_158 rfl rfl (Nat.le_of_ble_eq_true rfl) rfl rfl (Nat.le_of_ble_eq_true rfl) rfl ?_
      show Ev S (d + 3) 122 0 [some (.inr (some 60)), some (.inl x1), some (.inl 7)] [] σ _
      refine e_load q_122 rfl rfl rfl ?_
      refine e_getR q_122 rfl rfl rfl ?_
      refine e_push q_122 rfl ?_
      refine e_push q_122 rfl ?_
      refine e_load q_122 rfl rfl rfl ?_
      refine e_bin (r := 9 * x1) q_122 rfl rfl ?_
      refine e_bin (r := 1 + (9 * x1)) q_122 rfl rfl ?_
      refine e_load q_122 rfl rfl rfl ?_
      refine e_bin (r := (1 + (9 * x1)) + 7) q_122 rfl rfl ?_
      obtain ⟨j31, hjj31, hlj31, h⟩ := h
      refine e_iald q_122 rfl rfl (by decide) hjj31 hlj31 ?_
      refine e_ireturn q_122 rfl rfl ?_
      show Ev S (d + 4) 158 18 [some (.inr (some 60)), some (.inl x1)] [.inl (σ 61 j31), .inl 7, .inl x1, .inr (some 60)] σ _
      refine e_push q_158 rfl ?_
      refine e_bin (r := (σ 61 j31) + 1) q_158 rfl rfl ?_
      refine e_virt q_158 rfl rfl (Nat.le_of_ble_eq_true rfl) rfl rfl (Nat.le_of_ble_eq_true rfl) rfl ?_
      show Ev S (d + 3) 123 0 [some (.inr (some 60)), some (.inl x1), some (.inl 7), some (.inl ((σ 61 j31) + 1))] [] σ _
      refine e_load q_123 rfl rfl rfl ?_
      refine e_getR q_123 rfl rfl rfl ?_
      refine e_push q_123 rfl ?_
      refine e_push q_123 rfl ?_
      refine e_load q_123 rfl rfl rfl ?_
      refine e_bin (r := 9 * x1) q_123 rfl rfl ?_
      refine e_bin (r := 1 + (9 * x1)) q_123 rfl rfl ?_
      refine e_load q_123 rfl rfl rfl ?_
      refine e_bin (r := (1 + (9 * x1)) + 7) q_123 rfl rfl ?_
      refine e_load q_123 rfl rfl rfl ?_
      obtain ⟨j32, hjj32, hlj32, h⟩ := h
      refine e_iast q_123 rfl rfl (by decide) hjj32 hlj32 ?_
      refine e_return q_123 rfl rfl ?_
      show Ev S (d + 4) 158 21 [some (.inr (some 60)), some (.inl x1)] [] (up σ 61 j32 ((σ 61 j31) + 1)) _
      refine e_goto q_158 rfl ?_
      refine e_load q_158 rfl rfl rfl ?_
      refine e_load q_158 rfl rfl rfl ?_
      refine e_push q_158 rfl ?_
      refine e_virt q_158 rfl rfl (Nat.le_of_ble_eq_true rfl) rfl rfl (Nat.le_of_ble_eq_true rfl) rfl ?_
      show Ev S (d + 3) 122 0 [some (.inr (some 60)), some (.inl x1), some (.inl 6)] [] (up σ 61 j32 ((σ 61 j31) + 1)) _
      refine e_load q_122 rfl rfl rfl ?_
      refine e_getR q_122 rfl rfl rfl ?_
      refine e_push q_122 rfl ?_
      refine e_push q_122 rfl ?_
      refine e_load q_122 rfl rfl rfl ?_
      refine e_bin (r := 9 * x1) q_122 rfl rfl ?_
      refine e_bin (r := 1 + (9 * x1)) q_122 rfl rfl ?_
      refine e_load q_122 rfl rfl rfl ?_
      refine e_bin (r := (1 + (9 * x1)) + 6) q_122 rfl rfl ?_
      obtain ⟨j33, hjj33, hlj33, h⟩ := h
      refine e_iald q_122 rfl rfl (by decide) hjj33 hlj33 ?_
      refine e_ireturn q_122 rfl rfl ?_
      show Ev S (d + 4) 158 43 [some (.inr (some 60)), some (.inl x1)] [.inl ((up σ 61 j32 ((σ 61 j31) + 1)) 61 j33)] (up σ 61 j32 ((σ 61 j31) + 1)) _
      refine e_push q_158 rfl ?_
      refine e_icmp (P := 6 ≤ ((up σ 61 j32 ((σ 61 j31) + 1)) 61 j33)) q_158 rfl m_c3 (fun c => ?_) (fun c => ?_)
      · replace h := h.1 c
        refine e_load q_158 rfl rfl rfl ?_
        refine e_load q_158 rfl rfl rfl ?_
        refine e_push q_158 rfl ?_
        refine e_virt q_158 rfl rfl (Nat.le_of_ble_eq_true rfl) rfl rfl (Nat.le_of_ble_eq_true rfl) rfl ?_
        show Ev S (d + 3) 122 0 [some (.inr (some 60)), some (.inl x1), some (.inl 6)] [] (up σ 61 j32 ((σ 61 j31) + 1)) _
        refine e_load q_122 rfl rfl rfl ?_
        refine e_getR q_122 rfl rfl rfl ?_
        refine e_push q_122 rfl ?_
        refine e_push q_122 rfl ?_
        refine e_load q_122 rfl rfl rfl ?_
        refine e_bin (r := 9 * x1) q_122 rfl rfl ?_
        refine e_bin (r := 1 + (9 * x1)) q_122 rfl rfl ?_
        refine e_load q_122 rfl rfl rfl ?_
        refine e_bin (r := (1 + (9 * x1)) + 6) q_122 rfl rfl ?_
        obtain ⟨j34, hjj34, hlj34, h⟩ := h
        refine e_iald q_122 rfl rfl (by decide) hjj34 hlj34 ?_
        refine e_ireturn q_122 rfl rfl ?_
        show Ev S (d + 4) 158 53 [some (.inr (some 60)), some (.inl x1)] [.inl ((up σ 61 j32 ((σ 61 j31) + 1)) 61 j34)] (up σ 61 j32 ((σ 61 j31) + 1)) _
        refine e_push q_158 rfl ?_
        refine e_icmp (P := 6 ≤ ((up σ 61 j32 ((σ 61 j31) + 1)) 61 j34)) q_158 rfl m_c3 (fun c => ?_) (fun c => ?_)
        · replace h := h.1 c
          refine e_push q_158 rfl ?_
          exact e_zreturn q_158 rfl rfl (by decide) h
        · replace h := h.2 c
          refine e_push q_158 rfl ?_
          refine e_goto q_158 rfl ?_
          exact e_zreturn q_158 rfl rfl (by decide) h
      · replace h := h.2 c
        refine e_load q_158 rfl rfl rfl ?_
        refine e_load q_158 rfl rfl rfl ?_
        refine e_virt q_158 rfl rfl (Nat.le_of_ble_eq_true rfl) rfl rfl (Nat.le_of_ble_eq_true rfl) rfl ?_
        show Ev S (d + 3) 157 0 [some (.inr (some 60)), some (.inl x1)] [] (up σ 61 j32 ((σ 61 j31) + 1)) _
        refine e_load q_157 rfl rfl rfl ?_
        refine e_load q_157 rfl rfl rfl ?_
        refine e_push q_157 rfl ?_
        refine e_virt q_157 rfl rfl (Nat.le_of_ble_eq_true rfl) rfl rfl (Nat.le_of_ble_eq_true rfl) rfl ?_
        show Ev S (d + 2) 122 0 [some (.inr (some 60)), some (.inl x1), some (.inl 6)] [] (up σ 61 j32 ((σ 61 j31) + 1)) _
        refine e_load q_122 rfl rfl rfl ?_
        refine e_getR q_122 rfl rfl rfl ?_
        refine e_push q_122 rfl ?_
        refine e_push q_122 rfl ?_
        refine e_load q_122 rfl rfl rfl ?_
        refine e_bin (r := 9 * x1) q_122 rfl rfl ?_
        refine e_bin (r := 1 + (9 * x1)) q_122 rfl rfl ?_
        refine e_load q_122 rfl rfl rfl ?_
        refine e_bin (r := (1 + (9 * x1)) + 6) q_122 rfl rfl ?_
        obtain ⟨j35, hjj35, hlj35, h⟩ := h
        refine e_iald q_122 rfl rfl (by decide) hjj35 hlj35 ?_
        refine e_ireturn q_122 rfl rfl ?_
        show Ev S (d + 3) 157 4 [some (.inr (some 60)), some (.inl x1)] [.inl ((up σ 61 j32 ((σ 61 j31) + 1)) 61 j35)] (up σ 61 j32 ((σ 61 j31) + 1)) _
        refine e_push q_157 rfl ?_
        refine e_icmp (P := 6 ≤ ((up σ 61 j32 ((σ 61 j31) + 1)) 61 j35)) q_157 rfl m_c3 (fun c => ?_) (fun c => ?_)
        · replace h := h.1 c
          refine e_push q_157 rfl ?_
          refine e_zreturn q_157 rfl rfl (by decide) ?_
          show Ev S (d + 4) 158 48 [some (.inr (some 60)), some (.inl x1)] [.inl 0] (up σ 61 j32 ((σ 61 j31) + 1)) _
          refine e_if (P := (0 : Int32) = 0) q_158 rfl m_c0 (fun _ => ?_) (fun c => absurd (by decide) c)
          exact h
        · replace h := h.2 c
          refine e_load q_157 rfl rfl rfl ?_
          refine e_load q_157 rfl rfl rfl ?_
          refine e_push q_157 rfl ?_
          refine e_virt q_157 rfl rfl (Nat.le_of_ble_eq_true rfl) rfl rfl (Nat.le_of_ble_eq_true rfl) rfl ?_
          show Ev S (d + 2) 122 0 [some (.inr (some 60)), some (.inl x1), some (.inl 7)] [] (up σ 61 j32 ((σ 61 j31) + 1)) _
          refine e_load q_122 rfl rfl rfl ?_
          refine e_getR q_122 rfl rfl rfl ?_
          refine e_push q_122 rfl ?_
          refine e_push q_122 rfl ?_
          refine e_load q_122 rfl rfl rfl ?_
          refine e_bin (r := 9 * x1) q_122 rfl rfl ?_
          refine e_bin (r := 1 + (9 * x1)) q_122 rfl rfl ?_
          refine e_load q_122 rfl rfl rfl ?_
          refine e_bin (r := (1 + (9 * x1)) + 7) q_122 rfl rfl ?_
          obtain ⟨j36, hjj36, hlj36, h⟩ := h
          refine e_iald q_122 rfl rfl (by decide) hjj36 hlj36 ?_
          refine e_ireturn q_122 rfl rfl ?_
          show Ev S (d + 3) 157 10 [some (.inr (some 60)), some (.inl x1)] [.inl ((up σ 61 j32 ((σ 61 j31) + 1)) 61 j36)] (up σ 61 j32 ((σ 61 j31) + 1)) _
          refine e_push q_157 rfl ?_
          refine e_icmp (P := 6 ≤ ((up σ 61 j32 ((σ 61 j31) + 1)) 61 j36)) q_157 rfl m_c3 (fun c => ?_) (fun c => ?_)
          · replace h := h.1 c
            refine e_push q_157 rfl ?_
            refine e_zreturn q_157 rfl rfl (by decide) ?_
            show Ev S (d + 4) 158 48 [some (.inr (some 60)), some (.inl x1)] [.inl 0] (up σ 61 j32 ((σ 61 j31) + 1)) _
            refine e_if (P := (0 : Int32) = 0) q_158 rfl m_c0 (fun _ => ?_) (fun c => absurd (by decide) c)
            exact h
          · replace h := h.2 c
            refine e_load q_157 rfl rfl rfl ?_
            refine e_push q_157 rfl ?_
            refine e_load q_157 rfl rfl rfl ?_
            exact e_virt q_157 rfl rfl (Nat.le_of_ble_eq_true rfl) rfl rfl (Nat.le_of_ble_eq_true rfl) rfl h
theorem g_158_48 {S : Nat × (Nat → Int32)} {d : Nat} {σ : Mem} {Q : MQ1} {x1 : Int32} {y0 : Int32}  (h : ((y0 = 0 → Ev S (d + 4) 158 0 [some (.inr (some 60)), some (.inl x1)] [] σ Q) ∧ (¬ (y0 = 0) → (∃ j1 : Nat, (1 + (9 * x1)) + 6 = nI j1 ∧ j1 < 86 ∧ ((6 ≤ (σ 61 j1) → Q [.inl 0] σ) ∧ (¬ (6 ≤ (σ 61 j1)) → Q [.inl 1] σ)))))) : Ev S (d + 4) 158 48 [some (.inr (some 60)), some (.inl x1)] [.inl y0] σ Q := by
  refine e_if (P := y0 = 0) q_158 rfl m_c0 (fun c => ?_) (fun c => ?_)
  · replace h := h.1 c
    exact h
  · replace h := h.2 c
    refine e_load q_158 rfl rfl rfl ?_
    refine e_load q_158 rfl rfl rfl ?_
    refine e_push q_158 rfl ?_
    refine e_virt q_158 rfl rfl (Nat.le_of_ble_eq_true rfl) rfl rfl (Nat.le_of_ble_eq_true rfl) rfl ?_
    show Ev S (d + 3) 122 0 [some (.inr (some 60)), some (.inl x1), some (.inl 6)] [] σ _
    refine e_load q_122 rfl rfl rfl ?_
    refine e_getR q_122 rfl rfl rfl ?_
    refine e_push q_122 rfl ?_
    refine e_push q_122 rfl ?_
    refine e_load q_122 rfl rfl rfl ?_
    refine e_bin (r := 9 * x1) q_122 rfl rfl ?_
    refine e_bin (r := 1 + (9 * x1)) q_122 rfl rfl ?_
    refine e_load q_122 rfl rfl rfl ?_
    refine e_bin (r := (1 + (9 * x1)) + 6) q_122 rfl rfl ?_
    obtain ⟨j1, hjj1, hlj1, h⟩ := h
    refine e_iald q_122 rfl rfl (by decide) hjj1 hlj1 ?_
    refine e_ireturn q_122 rfl rfl ?_
    show Ev S (d + 4) 158 53 [some (.inr (some 60)), some (.inl x1)] [.inl (σ 61 j1)] σ _
    refine e_push q_158 rfl ?_
    refine e_icmp (P := 6 ≤ (σ 61 j1)) q_158 rfl m_c3 (fun c => ?_) (fun c => ?_)
    · replace h := h.1 c
      refine e_push q_158 rfl ?_
      exact e_zreturn q_158 rfl rfl (by decide) h
    · replace h := h.2 c
      refine e_push q_158 rfl ?_
      refine e_goto q_158 rfl ?_
      exact e_zreturn q_158 rfl rfl (by decide) h
theorem g_159_19 {S : Nat × (Nat → Int32)} {d : Nat} {σ : Mem} {Q : MQ1} {o0 : Option MV} {o1 : Option MV} {y0 : Int32}  (h : ((y0 = 0 → Q [.inl 0] σ) ∧ (¬ (y0 = 0) → Q [.inl 1] σ))) : Ev S (d + 5) 159 19 [o0, o1] [.inl y0] σ Q := by
  refine e_if (P := y0 = 0) q_159 rfl m_c0 (fun c => ?_) (fun c => ?_)
  · replace h := h.1 c
    refine e_push q_159 rfl ?_
    exact e_zreturn q_159 rfl rfl (by decide) h
  · replace h := h.2 c
    refine e_push q_159 rfl ?_
    refine e_goto q_159 rfl ?_
    exact e_zreturn q_159 rfl rfl (by decide) h
theorem g_159_15 {S : Nat × (Nat → Int32)} {d : Nat} {σ : Mem} {Q : MQ1} {x1 : Int32} {y0 : Int32}  (h : (((¬ y0 = 0) → Q [.inl 1] σ) ∧ (¬ (¬ y0 = 0) → Ec S (d + 4) 158 [.inr (some 60), .inl x1] σ (fun rv σ' => Ev S (d + 5) 159 19 [some (.inr (some 60)), some (.inl x1)] (rv ++ []) σ' Q)))) : Ev S (d + 5) 159 15 [some (.inr (some 60)), some (.inl x1)] [.inl y0] σ Q := by
  refine e_if (P := ¬ y0 = 0) q_159 rfl m_c1 (fun c => ?_) (fun c => ?_)
  · replace h := h.1 c
    refine e_push q_159 rfl ?_
    refine e_goto q_159 rfl ?_
    exact e_zreturn q_159 rfl rfl (by decide) h
  · replace h := h.2 c
    refine e_load q_159 rfl rfl rfl ?_
    refine e_load q_159 rfl rfl rfl ?_
    exact e_virt q_159 rfl rfl (Nat.le_of_ble_eq_true rfl) rfl rfl (Nat.le_of_ble_eq_true rfl) rfl h
theorem g_160_0 {S : Nat × (Nat → Int32)} {d : Nat} {σ : Mem} {Q : MQ1}   (h : Ev S (d + 1) 160 4 [some (.inr (some 60)), some (.inl 0), some (.inl 0)] [] σ Q) : Ev S (d + 1) 160 0 [some (.inr (some 60)), none, none] [] σ Q := by
  refine e_push q_160 rfl ?_
  refine e_store (ls' := [some (.inr (some 60)), some (.inl 0), none]) q_160 rfl (Nat.le_of_ble_eq_true rfl) rfl rfl ?_
  refine e_push q_160 rfl ?_
  refine e_store (ls' := [some (.inr (some 60)), some (.inl 0), some (.inl 0)]) q_160 rfl (Nat.le_of_ble_eq_true rfl) rfl rfl ?_
  exact h
theorem g_160_4 {S : Nat × (Nat → Int32)} {d : Nat} {σ : Mem} {Q : MQ1} {x1 : Int32} {x2 : Int32}  (h : (((σ 60 9) ≤ x2 → Q [.inl x1] σ) ∧ (¬ ((σ 60 9) ≤ x2) → (∃ j1 : Nat, x2 = nI j1 ∧ j1 < 8 ∧ (∃ j2 : Nat, (1 + (9 * (σ 67 j1))) + 6 = nI j2 ∧ j2 < 86 ∧ (∃ j3 : Nat, 2 * x2 = nI j3 ∧ j3 < 16 ∧ (((σ 61 j2) = (σ 68 j3) → (∃ j4 : Nat, x2 = nI j4 ∧ j4 < 8 ∧ (∃ j5 : Nat, (1 + (9 * (σ 67 j4))) + 7 = nI j5 ∧ j5 < 86 ∧ (∃ j6 : Nat, (2 * x2) + 1 = nI j6 ∧ j6 < 16 ∧ (((σ 61 j5) = (σ 68 j6) → Ev S (d + 1) 160 4 [some (.inr (some 60)), some (.inl ((x1 + 0) + 0)), some (.inl (x2 + 1))] [] σ Q) ∧ (¬ ((σ 61 j5) = (σ 68 j6)) → Ev S (d + 1) 160 4 [some (.inr (some 60)), some (.inl ((x1 + 0) + 1)), some (.inl (x2 + 1))] [] σ Q)))))) ∧ (¬ ((σ 61 j2) = (σ 68 j3)) → (∃ j7 : Nat, x2 = nI j7 ∧ j7 < 8 ∧ (∃ j8 : Nat, (1 + (9 * (σ 67 j7))) + 7 = nI j8 ∧ j8 < 86 ∧ (∃ j9 : Nat, (2 * x2) + 1 = nI j9 ∧ j9 < 16 ∧ (((σ 61 j8) = (σ 68 j9) → Ev S (d + 1) 160 4 [some (.inr (some 60)), some (.inl ((x1 + 1) + 0)), some (.inl (x2 + 1))] [] σ Q) ∧ (¬ ((σ 61 j8) = (σ 68 j9)) → Ev S (d + 1) 160 4 [some (.inr (some 60)), some (.inl ((x1 + 1) + 1)), some (.inl (x2 + 1))] [] σ Q))))))))))))) : Ev S (d + 1) 160 4 [some (.inr (some 60)), some (.inl x1), some (.inl x2)] [] σ Q := by
  refine e_load q_160 rfl rfl rfl ?_
  refine e_load q_160 rfl rfl rfl ?_
  refine e_getI q_160 rfl rfl rfl ?_
  refine e_icmp (P := (σ 60 9) ≤ x2) q_160 rfl m_c3 (fun c => ?_) (fun c => ?_)
  · replace h := h.1 c
    refine e_load q_160 rfl rfl rfl ?_
    exact e_ireturn q_160 rfl rfl h
  · replace h := h.2 c
    refine e_load q_160 rfl rfl rfl ?_
    refine e_load q_160 rfl rfl rfl ?_
    refine e_load q_160 rfl rfl rfl ?_
    refine e_getR q_160 rfl rfl rfl ?_
    refine e_load q_160 rfl rfl rfl ?_
    obtain ⟨j1, hjj1, hlj1, h⟩ := h
    refine e_iald q_160 rfl rfl (by decide) hjj1 hlj1 ?_
    refine e_push q_160 rfl ?_
    refine e_virt q_160 rfl rfl (Nat.le_of_ble_eq_true rfl) rfl rfl (Nat.le_of_ble_eq_true rfl) rfl ?_
    show Ev S d 122 0 [some (.inr (some 60)), some (.inl (σ 67 j1)), some (.inl 6)] [] σ _
    refine e_load q_122 rfl rfl rfl ?_
    refine e_getR q_122 rfl rfl rfl ?_
    refine e_push q_122 rfl ?_
    refine e_push q_122 rfl ?_
    refine e_load q_122 rfl rfl rfl ?_
    refine e_bin (r := 9 * (σ 67 j1)) q_122 rfl rfl ?_
    refine e_bin (r := 1 + (9 * (σ 67 j1))) q_122 rfl rfl ?_
    refine e_load q_122 rfl rfl rfl ?_
    refine e_bin (r := (1 + (9 * (σ 67 j1))) + 6) q_122 rfl rfl ?_
    obtain ⟨j2, hjj2, hlj2, h⟩ := h
    refine e_iald q_122 rfl rfl (by decide) hjj2 hlj2 ?_
    refine e_ireturn q_122 rfl rfl ?_
    show Ev S (d + 1) 160 16 [some (.inr (some 60)), some (.inl x1), some (.inl x2)] [.inl (σ 61 j2), .inl x1] σ _
    refine e_load q_160 rfl rfl rfl ?_
    refine e_getR q_160 rfl rfl rfl ?_
    refine e_push q_160 rfl ?_
    refine e_load q_160 rfl rfl rfl ?_
    refine e_bin (r := 2 * x2) q_160 rfl rfl ?_
    obtain ⟨j3, hjj3, hlj3, h⟩ := h
    refine e_iald q_160 rfl rfl (by decide) hjj3 hlj3 ?_
    refine e_icmp (P := (σ 61 j2) = (σ 68 j3)) q_160 rfl m_c0 (fun c => ?_) (fun c => ?_)
    · replace h := h.1 c
      refine e_push q_160 rfl ?_
      refine e_bin (r := x1 + 0) q_160 rfl rfl ?_
      refine e_store (ls' := [some (.inr (some 60)), some (.inl (x1 + 0)), some (.inl x2)]) q_160 rfl (Nat.le_of_ble_eq_true rfl) rfl rfl ?_
      refine e_load q_160 rfl rfl rfl ?_
      refine e_load q_160 rfl rfl rfl ?_
      refine e_load q_160 rfl rfl rfl ?_
      refine e_getR q_160 rfl rfl rfl ?_
      refine e_load q_160 rfl rfl rfl ?_
      obtain ⟨j4, hjj4, hlj4, h⟩ := h
      refine e_iald q_160 rfl rfl (by decide) hjj4 hlj4 ?_
      refine e_push q_160 rfl ?_
      refine e_virt q_160 rfl rfl (Nat.le_of_ble_eq_true rfl) rfl rfl (Nat.le_of_ble_eq_true rfl) rfl ?_
      show Ev S d 122 0 [some (.inr (some 60)), some (.inl (σ 67 j4)), some (.inl 7)] [] σ _
      refine e_load q_122 rfl rfl rfl ?_
      refine e_getR q_122 rfl rfl rfl ?_
      refine e_push q_122 rfl ?_
      refine e_push q_122 rfl ?_
      refine e_load q_122 rfl rfl rfl ?_
      refine e_bin (r := 9 * (σ 67 j4)) q_122 rfl rfl ?_
      refine e_bin (r := 1 + (9 * (σ 67 j4))) q_122 rfl rfl ?_
      refine e_load q_122 rfl rfl rfl ?_
      refine e_bin (r := (1 + (9 * (σ 67 j4))) + 7) q_122 rfl rfl ?_
      obtain ⟨j5, hjj5, hlj5, h⟩ := h
      refine e_iald q_122 rfl rfl (by decide) hjj5 hlj5 ?_
      refine e_ireturn q_122 rfl rfl ?_
      show Ev S (d + 1) 160 36 [some (.inr (some 60)), some (.inl (x1 + 0)), some (.inl x2)] [.inl (σ 61 j5), .inl (x1 + 0)] σ _
      refine e_load q_160 rfl rfl rfl ?_
      refine e_getR q_160 rfl rfl rfl ?_
      refine e_push q_160 rfl ?_
      refine e_load q_160 rfl rfl rfl ?_
      refine e_bin (r := 2 * x2) q_160 rfl rfl ?_
      refine e_push q_160 rfl ?_
      refine e_bin (r := (2 * x2) + 1) q_160 rfl rfl ?_
      obtain ⟨j6, hjj6, hlj6, h⟩ := h
      refine e_iald q_160 rfl rfl (by decide) hjj6 hlj6 ?_
      refine e_icmp (P := (σ 61 j5) = (σ 68 j6)) q_160 rfl m_c0 (fun c => ?_) (fun c => ?_)
      · replace h := h.1 c
        refine e_push q_160 rfl ?_
        refine e_bin (r := (x1 + 0) + 0) q_160 rfl rfl ?_
        refine e_store (ls' := [some (.inr (some 60)), some (.inl ((x1 + 0) + 0)), some (.inl x2)]) q_160 rfl (Nat.le_of_ble_eq_true rfl) rfl rfl ?_
        refine e_iinc (ls' := [some (.inr (some 60)), some (.inl ((x1 + 0) + 0)), some (.inl (x2 + 1))]) q_160 rfl rfl rfl ?_
        refine e_goto q_160 rfl ?_
        exact h
      · replace h := h.2 c
        refine e_push q_160 rfl ?_
        refine e_goto q_160 rfl ?_
        refine e_bin (r := (x1 + 0) + 1) q_160 rfl rfl ?_
        refine e_store (ls' := [some (.inr (some 60)), some (.inl ((x1 + 0) + 1)), some (.inl x2)]) q_160 rfl (Nat.le_of_ble_eq_true rfl) rfl rfl ?_
        refine e_iinc (ls' := [some (.inr (some 60)), some (.inl ((x1 + 0) + 1)), some (.inl (x2 + 1))]) q_160 rfl rfl rfl ?_
        refine e_goto q_160 rfl ?_
        exact h
    · replace h := h.2 c
      refine e_push q_160 rfl ?_
      refine e_goto q_160 rfl ?_
      refine e_bin (r := x1 + 1) q_160 rfl rfl ?_
      refine e_store (ls' := [some (.inr (some 60)), some (.inl (x1 + 1)), some (.inl x2)]) q_160 rfl (Nat.le_of_ble_eq_true rfl) rfl rfl ?_
      refine e_load q_160 rfl rfl rfl ?_
      refine e_load q_160 rfl rfl rfl ?_
      refine e_load q_160 rfl rfl rfl ?_
      refine e_getR q_160 rfl rfl rfl ?_
      refine e_load q_160 rfl rfl rfl ?_
      obtain ⟨j7, hjj7, hlj7, h⟩ := h
      refine e_iald q_160 rfl rfl (by decide) hjj7 hlj7 ?_
      refine e_push q_160 rfl ?_
      refine e_virt q_160 rfl rfl (Nat.le_of_ble_eq_true rfl) rfl rfl (Nat.le_of_ble_eq_true rfl) rfl ?_
      show Ev S d 122 0 [some (.inr (some 60)), some (.inl (σ 67 j7)), some (.inl 7)] [] σ _
      refine e_load q_122 rfl rfl rfl ?_
      refine e_getR q_122 rfl rfl rfl ?_
      refine e_push q_122 rfl ?_
      refine e_push q_122 rfl ?_
      refine e_load q_122 rfl rfl rfl ?_
      refine e_bin (r := 9 * (σ 67 j7)) q_122 rfl rfl ?_
      refine e_bin (r := 1 + (9 * (σ 67 j7))) q_122 rfl rfl ?_
      refine e_load q_122 rfl rfl rfl ?_
      refine e_bin (r := (1 + (9 * (σ 67 j7))) + 7) q_122 rfl rfl ?_
      obtain ⟨j8, hjj8, hlj8, h⟩ := h
      refine e_iald q_122 rfl rfl (by decide) hjj8 hlj8 ?_
      refine e_ireturn q_122 rfl rfl ?_
      show Ev S (d + 1) 160 36 [some (.inr (some 60)), some (.inl (x1 + 1)), some (.inl x2)] [.inl (σ 61 j8), .inl (x1 + 1)] σ _
      refine e_load q_160 rfl rfl rfl ?_
      refine e_getR q_160 rfl rfl rfl ?_
      refine e_push q_160 rfl ?_
      refine e_load q_160 rfl rfl rfl ?_
      refine e_bin (r := 2 * x2) q_160 rfl rfl ?_
      refine e_push q_160 rfl ?_
      refine e_bin (r := (2 * x2) + 1) q_160 rfl rfl ?_
      obtain ⟨j9, hjj9, hlj9, h⟩ := h
      refine e_iald q_160 rfl rfl (by decide) hjj9 hlj9 ?_
      refine e_icmp (P := (σ 61 j8) = (σ 68 j9)) q_160 rfl m_c0 (fun c => ?_) (fun c => ?_)
      · replace h := h.1 c
        refine e_push q_160 rfl ?_
        refine e_bin (r := (x1 + 1) + 0) q_160 rfl rfl ?_
        refine e_store (ls' := [some (.inr (some 60)), some (.inl ((x1 + 1) + 0)), some (.inl x2)]) q_160 rfl (Nat.le_of_ble_eq_true rfl) rfl rfl ?_
        refine e_iinc (ls' := [some (.inr (some 60)), some (.inl ((x1 + 1) + 0)), some (.inl (x2 + 1))]) q_160 rfl rfl rfl ?_
        refine e_goto q_160 rfl ?_
        exact h
      · replace h := h.2 c
        refine e_push q_160 rfl ?_
        refine e_goto q_160 rfl ?_
        refine e_bin (r := (x1 + 1) + 1) q_160 rfl rfl ?_
        refine e_store (ls' := [some (.inr (some 60)), some (.inl ((x1 + 1) + 1)), some (.inl x2)]) q_160 rfl (Nat.le_of_ble_eq_true rfl) rfl rfl ?_
        refine e_iinc (ls' := [some (.inr (some 60)), some (.inl ((x1 + 1) + 1)), some (.inl (x2 + 1))]) q_160 rfl rfl rfl ?_
        refine e_goto q_160 rfl ?_
        exact h
theorem g_161_0 {S : Nat × (Nat → Int32)} {d : Nat} {σ : Mem} {Q : MQ1} {x1 : Int32}  (h : Ec S (d + 3) 151 [.inr (some 60)] σ (fun rv σ' => Ev S (d + 4) 161 2 [some (.inr (some 60)), some (.inl x1), none, none, none] (rv ++ []) σ' Q)) : Ev S (d + 4) 161 0 [some (.inr (some 60)), some (.inl x1), none, none, none] [] σ Q := by
  refine e_load q_161 rfl rfl rfl ?_
  exact e_virt q_161 rfl rfl (Nat.le_of_ble_eq_true rfl) rfl rfl (Nat.le_of_ble_eq_true rfl) rfl h
theorem g_161_2 {S : Nat × (Nat → Int32)} {d : Nat} {σ : Mem} {Q : MQ1} {x1 : Int32} {o2 : Option MV} {o3 : Option MV} {o4 : Option MV} {y0 : Int32}  (h : ((y0 = 0 → ((x1 = 0 → Ec S (d + 3) 154 [.inr (some 60)] σ (fun rv σ' => Ev S (d + 4) 161 13 [some (.inr (some 60)), some (.inl x1), some (.inl 0), o3, o4] (rv ++ []) σ' Q)) ∧ (¬ (x1 = 0) → Ec S (d + 3) 160 [.inr (some 60)] σ (fun rv σ' => Ev S (d + 4) 161 8 [some (.inr (some 60)), some (.inl x1), o2, o3, o4] (rv ++ []) σ' Q)))) ∧ (¬ (y0 = 0) → Q [] σ))) : Ev S (d + 4) 161 2 [some (.inr (some 60)), some (.inl x1), o2, o3, o4] [.inl y0] σ Q := by
  refine e_if (P := y0 = 0) q_161 rfl m_c0 (fun c => ?_) (fun c => ?_)
  · replace h := h.1 c
    refine e_load q_161 rfl rfl rfl ?_
    refine e_if (P := x1 = 0) q_161 rfl m_c0 (fun c => ?_) (fun c => ?_)
    · replace h := h.1 c
      refine e_push q_161 rfl ?_
      refine e_store (ls' := [some (.inr (some 60)), some (.inl x1), some (.inl 0), o3, o4]) q_161 rfl (Nat.le_of_ble_eq_true rfl) rfl rfl ?_
      refine e_load q_161 rfl rfl rfl ?_
      exact e_virt q_161 rfl rfl (Nat.le_of_ble_eq_true rfl) rfl rfl (Nat.le_of_ble_eq_true rfl) rfl h
    · replace h := h.2 c
      refine e_load q_161 rfl rfl rfl ?_
      exact e_virt q_161 rfl rfl (Nat.le_of_ble_eq_true rfl) rfl rfl (Nat.le_of_ble_eq_true rfl) rfl h
  · replace h := h.2 c
    exact e_return q_161 rfl rfl h
theorem g_161_13 {S : Nat × (Nat → Int32)} {d : Nat} {σ : Mem} {Q : MQ1} {o1 : Option MV} {x2 : Int32} {o3 : Option MV} {o4 : Option MV} {y0 : Int32}  (h : (((σ 60 12) = 0 → Ev S (d + 4) 161 37 [some (.inr (some 60)), o1, some (.inl x2), some (.inl y0), some (.inl 0)] [] (up (up σ 60 13 x2) 60 14 y0) Q) ∧ (¬ ((σ 60 12) = 0) → ((x2 < (σ 60 13) → Ev S (d + 4) 161 37 [some (.inr (some 60)), o1, some (.inl x2), some (.inl y0), some (.inl 0)] [] (up (up σ 60 13 x2) 60 14 y0) Q) ∧ (¬ (x2 < (σ 60 13)) → (((¬ x2 = (σ 60 13)) → Q [] (up σ 60 12 ((σ 60 12) + 1))) ∧ (¬ (¬ x2 = (σ 60 13)) → (((σ 60 14) ≤ y0 → Q [] (up σ 60 12 ((σ 60 12) + 1))) ∧ (¬ ((σ 60 14) ≤ y0) → Ev S (d + 4) 161 37 [some (.inr (some 60)), o1, some (.inl x2), some (.inl y0), some (.inl 0)] [] (up (up σ 60 13 x2) 60 14 y0) Q))))))))) : Ev S (d + 4) 161 13 [some (.inr (some 60)), o1, some (.inl x2), o3, o4] [.inl y0] σ Q := by
  refine e_store (ls' := [some (.inr (some 60)), o1, some (.inl x2), some (.inl y0), o4]) q_161 rfl (Nat.le_of_ble_eq_true rfl) rfl rfl ?_
  refine e_load q_161 rfl rfl rfl ?_
  refine e_getI q_161 rfl rfl rfl ?_
  refine e_if (P := (σ 60 12) = 0) q_161 rfl m_c0 (fun c => ?_) (fun c => ?_)
  · replace h := h.1 c
    refine e_load q_161 rfl rfl rfl ?_
    refine e_load q_161 rfl rfl rfl ?_
    refine e_putI q_161 rfl rfl rfl ?_
    refine e_load q_161 rfl rfl rfl ?_
    refine e_load q_161 rfl rfl rfl ?_
    refine e_putI q_161 rfl rfl rfl ?_
    refine e_push q_161 rfl ?_
    refine e_store (ls' := [some (.inr (some 60)), o1, some (.inl x2), some (.inl y0), some (.inl 0)]) q_161 rfl (Nat.le_of_ble_eq_true rfl) rfl rfl ?_
    exact h
  · replace h := h.2 c
    refine e_load q_161 rfl rfl rfl ?_
    refine e_load q_161 rfl rfl rfl ?_
    refine e_getI q_161 rfl rfl rfl ?_
    refine e_icmp (P := x2 < (σ 60 13)) q_161 rfl m_c2 (fun c => ?_) (fun c => ?_)
    · replace h := h.1 c
      refine e_load q_161 rfl rfl rfl ?_
      refine e_load q_161 rfl rfl rfl ?_
      refine e_putI q_161 rfl rfl rfl ?_
      refine e_load q_161 rfl rfl rfl ?_
      refine e_load q_161 rfl rfl rfl ?_
      refine e_putI q_161 rfl rfl rfl ?_
      refine e_push q_161 rfl ?_
      refine e_store (ls' := [some (.inr (some 60)), o1, some (.inl x2), some (.inl y0), some (.inl 0)]) q_161 rfl (Nat.le_of_ble_eq_true rfl) rfl rfl ?_
      exact h
    · replace h := h.2 c
      refine e_load q_161 rfl rfl rfl ?_
      refine e_load q_161 rfl rfl rfl ?_
      refine e_getI q_161 rfl rfl rfl ?_
      refine e_icmp (P := ¬ x2 = (σ 60 13)) q_161 rfl m_c1 (fun c => ?_) (fun c => ?_)
      · replace h := h.1 c
        refine e_load q_161 rfl rfl rfl ?_
        refine e_dup q_161 rfl ?_
        refine e_getI q_161 rfl rfl rfl ?_
        refine e_push q_161 rfl ?_
        refine e_bin (r := (σ 60 12) + 1) q_161 rfl rfl ?_
        refine e_putI q_161 rfl rfl rfl ?_
        exact e_return q_161 rfl rfl h
      · replace h := h.2 c
        refine e_load q_161 rfl rfl rfl ?_
        refine e_load q_161 rfl rfl rfl ?_
        refine e_getI q_161 rfl rfl rfl ?_
        refine e_icmp (P := (σ 60 14) ≤ y0) q_161 rfl m_c3 (fun c => ?_) (fun c => ?_)
        · replace h := h.1 c
          refine e_load q_161 rfl rfl rfl ?_
          refine e_dup q_161 rfl ?_
          refine e_getI q_161 rfl rfl rfl ?_
          refine e_push q_161 rfl ?_
          refine e_bin (r := (σ 60 12) + 1) q_161 rfl rfl ?_
          refine e_putI q_161 rfl rfl rfl ?_
          exact e_return q_161 rfl rfl h
        · replace h := h.2 c
          refine e_load q_161 rfl rfl rfl ?_
          refine e_load q_161 rfl rfl rfl ?_
          refine e_putI q_161 rfl rfl rfl ?_
          refine e_load q_161 rfl rfl rfl ?_
          refine e_load q_161 rfl rfl rfl ?_
          refine e_putI q_161 rfl rfl rfl ?_
          refine e_push q_161 rfl ?_
          refine e_store (ls' := [some (.inr (some 60)), o1, some (.inl x2), some (.inl y0), some (.inl 0)]) q_161 rfl (Nat.le_of_ble_eq_true rfl) rfl rfl ?_
          exact h
theorem g_161_8 {S : Nat × (Nat → Int32)} {d : Nat} {σ : Mem} {Q : MQ1} {o1 : Option MV} {o2 : Option MV} {o3 : Option MV} {o4 : Option MV} {y0 : Int32}  (h : Ec S (d + 3) 154 [.inr (some 60)] σ (fun rv σ' => Ev S (d + 4) 161 13 [some (.inr (some 60)), o1, some (.inl y0), o3, o4] (rv ++ []) σ' Q)) : Ev S (d + 4) 161 8 [some (.inr (some 60)), o1, o2, o3, o4] [.inl y0] σ Q := by
  refine e_goto q_161 rfl ?_
  refine e_store (ls' := [some (.inr (some 60)), o1, some (.inl y0), o3, o4]) q_161 rfl (Nat.le_of_ble_eq_true rfl) rfl rfl ?_
  refine e_load q_161 rfl rfl rfl ?_
  exact e_virt q_161 rfl rfl (Nat.le_of_ble_eq_true rfl) rfl rfl (Nat.le_of_ble_eq_true rfl) rfl h
theorem g_161_37 {S : Nat × (Nat → Int32)} {d : Nat} {σ : Mem} {Q : MQ1} {o1 : Option MV} {o2 : Option MV} {o3 : Option MV} {x4 : Int32}  (h : (((σ 60 9) ≤ x4 → Q [] (up σ 60 12 ((σ 60 12) + 1))) ∧ (¬ ((σ 60 9) ≤ x4) → (∃ j1 : Nat, x4 = nI j1 ∧ j1 < 8 ∧ (∃ j2 : Nat, (1 + (9 * (σ 67 j1))) + 6 = nI j2 ∧ j2 < 86 ∧ (∃ j3 : Nat, 2 * x4 = nI j3 ∧ j3 < 16 ∧ (∃ j4 : Nat, x4 = nI j4 ∧ j4 < 8 ∧ (∃ j5 : Nat, (1 + (9 * ((up σ 69 j3 (σ 61 j2)) 67 j4))) + 7 = nI j5 ∧ j5 < 86 ∧ (∃ j6 : Nat, (2 * x4) + 1 = nI j6 ∧ j6 < 16 ∧ Ev S (d + 4) 161 37 [some (.inr (some 60)), o1, o2, o3, some (.inl (x4 + 1))] [] (up (up σ 69 j3 (σ 61 j2)) 69 j6 ((up σ 69 j3 (σ 61 j2)) 61 j5)) Q))))))))) : Ev S (d + 4) 161 37 [some (.inr (some 60)), o1, o2, o3, some (.inl x4)] [] σ Q := by
  refine e_load q_161 rfl rfl rfl ?_
  refine e_load q_161 rfl rfl rfl ?_
  refine e_getI q_161 rfl rfl rfl ?_
  refine e_icmp (P := (σ 60 9) ≤ x4) q_161 rfl m_c3 (fun c => ?_) (fun c => ?_)
  · replace h := h.1 c
    refine e_load q_161 rfl rfl rfl ?_
    refine e_dup q_161 rfl ?_
    refine e_getI q_161 rfl rfl rfl ?_
    refine e_push q_161 rfl ?_
    refine e_bin (r := (σ 60 12) + 1) q_161 rfl rfl ?_
    refine e_putI q_161 rfl rfl rfl ?_
    exact e_return q_161 rfl rfl h
  · replace h := h.2 c
    refine e_load q_161 rfl rfl rfl ?_
    refine e_getR q_161 rfl rfl rfl ?_
    refine e_push q_161 rfl ?_
    refine e_load q_161 rfl rfl rfl ?_
    refine e_bin (r := 2 * x4) q_161 rfl rfl ?_
    refine e_load q_161 rfl rfl rfl ?_
    refine e_load q_161 rfl rfl rfl ?_
    refine e_getR q_161 rfl rfl rfl ?_
    refine e_load q_161 rfl rfl rfl ?_
    obtain ⟨j1, hjj1, hlj1, h⟩ := h
    refine e_iald q_161 rfl rfl (by decide) hjj1 hlj1 ?_
    refine e_push q_161 rfl ?_
    refine e_virt q_161 rfl rfl (Nat.le_of_ble_eq_true rfl) rfl rfl (Nat.le_of_ble_eq_true rfl) rfl ?_
    show Ev S (d + 3) 122 0 [some (.inr (some 60)), some (.inl (σ 67 j1)), some (.inl 6)] [] σ _
    refine e_load q_122 rfl rfl rfl ?_
    refine e_getR q_122 rfl rfl rfl ?_
    refine e_push q_122 rfl ?_
    refine e_push q_122 rfl ?_
    refine e_load q_122 rfl rfl rfl ?_
    refine e_bin (r := 9 * (σ 67 j1)) q_122 rfl rfl ?_
    refine e_bin (r := 1 + (9 * (σ 67 j1))) q_122 rfl rfl ?_
    refine e_load q_122 rfl rfl rfl ?_
    refine e_bin (r := (1 + (9 * (σ 67 j1))) + 6) q_122 rfl rfl ?_
    obtain ⟨j2, hjj2, hlj2, h⟩ := h
    refine e_iald q_122 rfl rfl (by decide) hjj2 hlj2 ?_
    refine e_ireturn q_122 rfl rfl ?_
    show Ev S (d + 4) 161 53 [some (.inr (some 60)), o1, o2, o3, some (.inl x4)] [.inl (σ 61 j2), .inl (2 * x4), .inr (some 69)] σ _
    obtain ⟨j3, hjj3, hlj3, h⟩ := h
    refine e_iast q_161 rfl rfl (by decide) hjj3 hlj3 ?_
    refine e_load q_161 rfl rfl rfl ?_
    refine e_getR q_161 rfl rfl rfl ?_
    refine e_push q_161 rfl ?_
    refine e_load q_161 rfl rfl rfl ?_
    refine e_bin (r := 2 * x4) q_161 rfl rfl ?_
    refine e_push q_161 rfl ?_
    refine e_bin (r := (2 * x4) + 1) q_161 rfl rfl ?_
    refine e_load q_161 rfl rfl rfl ?_
    refine e_load q_161 rfl rfl rfl ?_
    refine e_getR q_161 rfl rfl rfl ?_
    refine e_load q_161 rfl rfl rfl ?_
    obtain ⟨j4, hjj4, hlj4, h⟩ := h
    refine e_iald q_161 rfl rfl (by decide) hjj4 hlj4 ?_
    refine e_push q_161 rfl ?_
    refine e_virt q_161 rfl rfl (Nat.le_of_ble_eq_true rfl) rfl rfl (Nat.le_of_ble_eq_true rfl) rfl ?_
    show Ev S (d + 3) 122 0 [some (.inr (some 60)), some (.inl ((up σ 69 j3 (σ 61 j2)) 67 j4)), some (.inl 7)] [] (up σ 69 j3 (σ 61 j2)) _
    refine e_load q_122 rfl rfl rfl ?_
    refine e_getR q_122 rfl rfl rfl ?_
    refine e_push q_122 rfl ?_
    refine e_push q_122 rfl ?_
    refine e_load q_122 rfl rfl rfl ?_
    refine e_bin (r := 9 * ((up σ 69 j3 (σ 61 j2)) 67 j4)) q_122 rfl rfl ?_
    refine e_bin (r := 1 + (9 * ((up σ 69 j3 (σ 61 j2)) 67 j4))) q_122 rfl rfl ?_
    refine e_load q_122 rfl rfl rfl ?_
    refine e_bin (r := (1 + (9 * ((up σ 69 j3 (σ 61 j2)) 67 j4))) + 7) q_122 rfl rfl ?_
    obtain ⟨j5, hjj5, hlj5, h⟩ := h
    refine e_iald q_122 rfl rfl (by decide) hjj5 hlj5 ?_
    refine e_ireturn q_122 rfl rfl ?_
    show Ev S (d + 4) 161 68 [some (.inr (some 60)), o1, o2, o3, some (.inl x4)] [.inl ((up σ 69 j3 (σ 61 j2)) 61 j5), .inl ((2 * x4) + 1), .inr (some 69)] (up σ 69 j3 (σ 61 j2)) _
    obtain ⟨j6, hjj6, hlj6, h⟩ := h
    refine e_iast q_161 rfl rfl (by decide) hjj6 hlj6 ?_
    refine e_iinc (ls' := [some (.inr (some 60)), o1, o2, o3, some (.inl (x4 + 1))]) q_161 rfl rfl rfl ?_
    refine e_goto q_161 rfl ?_
    exact h
theorem g_162_0 {S : Nat × (Nat → Int32)} {d : Nat} {σ : Mem} {Q : MQ1} {x1 : Int32}  (h : Ev S (d + 6) 162 5 [some (.inr (some 60)), some (.inl x1), some (.inl 0), none, none] [] (up σ 60 9 0) Q) : Ev S (d + 6) 162 0 [some (.inr (some 60)), some (.inl x1), none, none, none] [] σ Q := by
  refine e_load q_162 rfl rfl rfl ?_
  refine e_push q_162 rfl ?_
  refine e_putI q_162 rfl rfl rfl ?_
  refine e_push q_162 rfl ?_
  refine e_store (ls' := [some (.inr (some 60)), some (.inl x1), some (.inl 0), none, none]) q_162 rfl (Nat.le_of_ble_eq_true rfl) rfl rfl ?_
  exact h
theorem g_162_5 {S : Nat × (Nat → Int32)} {d : Nat} {σ : Mem} {Q : MQ1} {x1 : Int32} {x2 : Int32} {o3 : Option MV} {o4 : Option MV}  (h : (((σ 61 0) ≤ x2 → (((σ 60 9) ≤ 4 → Ev S (d + 6) 162 66 [some (.inr (some 60)), some (.inl x1), some (.inl 1), some (.inl 0), o4] [] (up σ 60 12 0) Q) ∧ (¬ ((σ 60 9) ≤ 4) → Q [.inl 0] σ))) ∧ (¬ ((σ 61 0) ≤ x2) → (∃ j2 : Nat, (1 + (9 * x2)) + 0 = nI j2 ∧ j2 < 86 ∧ (((¬ (σ 61 j2) = 2) → (∃ j3 : Nat, σ 60 9 = nI j3 ∧ j3 < 8 ∧ (∃ j4 : Nat, (1 + (9 * x2)) + 6 = nI j4 ∧ j4 < 86 ∧ (∃ j5 : Nat, 2 * ((up σ 67 j3 x2) 60 9) = nI j5 ∧ j5 < 16 ∧ (∃ j6 : Nat, (1 + (9 * x2)) + 7 = nI j6 ∧ j6 < 86 ∧ (∃ j7 : Nat, (2 * ((up (up σ 67 j3 x2) 68 j5 ((up σ 67 j3 x2) 61 j4)) 60 9)) + 1 = nI j7 ∧ j7 < 16 ∧ Ev S (d + 6) 162 5 [some (.inr (some 60)), some (.inl x1), some (.inl (x2 + 1)), o3, o4] [] (up (up (up (up σ 67 j3 x2) 68 j5 ((up σ 67 j3 x2) 61 j4)) 68 j7 ((up (up σ 67 j3 x2) 68 j5 ((up σ 67 j3 x2) 61 j4)) 61 j6)) 60 9 (((up (up (up σ 67 j3 x2) 68 j5 ((up σ 67 j3 x2) 61 j4)) 68 j7 ((up (up σ 67 j3 x2) 68 j5 ((up σ 67 j3 x2) 61 j4)) 61 j6)) 60 9) + 1)) Q)))))) ∧ (¬ (¬ (σ 61 j2) = 2) → Ev S (d + 6) 162 5 [some (.inr (some 60)), some (.inl x1), some (.inl (x2 + 1)), o3, o4] [] σ Q)))))) : Ev S (d + 6) 162 5 [some (.inr (some 60)), some (.inl x1), some (.inl x2), o3, o4] [] σ Q := by
  refine e_load q_162 rfl rfl rfl ?_
  refine e_load q_162 rfl rfl rfl ?_
  refine e_getR q_162 rfl rfl rfl ?_
  refine e_push q_162 rfl ?_
  refine e_iald (j := 0) q_162 rfl rfl (by decide) (by decide +kernel) (by decide) ?_
  refine e_icmp (P := (σ 61 0) ≤ x2) q_162 rfl m_c3 (fun c => ?_) (fun c => ?_)
  · replace h := h.1 c
    refine e_load q_162 rfl rfl rfl ?_
    refine e_getI q_162 rfl rfl rfl ?_
    refine e_push q_162 rfl ?_
    refine e_icmp (P := (σ 60 9) ≤ 4) q_162 rfl m_c5 (fun c => ?_) (fun c => ?_)
    · replace h := h.1 c
      refine e_load q_162 rfl rfl rfl ?_
      refine e_push q_162 rfl ?_
      refine e_putI q_162 rfl rfl rfl ?_
      refine e_push q_162 rfl ?_
      refine e_store (ls' := [some (.inr (some 60)), some (.inl x1), some (.inl 1), o3, o4]) q_162 rfl (Nat.le_of_ble_eq_true rfl) rfl rfl ?_
      refine e_push q_162 rfl ?_
      refine e_store (ls' := [some (.inr (some 60)), some (.inl x1), some (.inl 1), some (.inl 0), o4]) q_162 rfl (Nat.le_of_ble_eq_true rfl) rfl rfl ?_
      exact h
    · replace h := h.2 c
      refine e_push q_162 rfl ?_
      exact e_zreturn q_162 rfl rfl (by decide) h
  · replace h := h.2 c
    refine e_load q_162 rfl rfl rfl ?_
    refine e_load q_162 rfl rfl rfl ?_
    refine e_virt q_162 rfl rfl (Nat.le_of_ble_eq_true rfl) rfl rfl (Nat.le_of_ble_eq_true rfl) rfl ?_
    show Ev S (d + 5) 124 0 [some (.inr (some 60)), some (.inl x2)] [] σ _
    refine e_load q_124 rfl rfl rfl ?_
    refine e_load q_124 rfl rfl rfl ?_
    refine e_push q_124 rfl ?_
    refine e_virt q_124 rfl rfl (Nat.le_of_ble_eq_true rfl) rfl rfl (Nat.le_of_ble_eq_true rfl) rfl ?_
    show Ev S (d + 4) 122 0 [some (.inr (some 60)), some (.inl x2), some (.inl 0)] [] σ _
    refine e_load q_122 rfl rfl rfl ?_
    refine e_getR q_122 rfl rfl rfl ?_
    refine e_push q_122 rfl ?_
    refine e_push q_122 rfl ?_
    refine e_load q_122 rfl rfl rfl ?_
    refine e_bin (r := 9 * x2) q_122 rfl rfl ?_
    refine e_bin (r := 1 + (9 * x2)) q_122 rfl rfl ?_
    refine e_load q_122 rfl rfl rfl ?_
    refine e_bin (r := (1 + (9 * x2)) + 0) q_122 rfl rfl ?_
    obtain ⟨j2, hjj2, hlj2, h⟩ := h
    refine e_iald q_122 rfl rfl (by decide) hjj2 hlj2 ?_
    refine e_ireturn q_122 rfl rfl ?_
    show Ev S (d + 5) 124 4 [some (.inr (some 60)), some (.inl x2)] [.inl (σ 61 j2)] σ _
    refine e_push q_124 rfl ?_
    refine e_icmp (P := ¬ (σ 61 j2) = 2) q_124 rfl m_c1 (fun c => ?_) (fun c => ?_)
    · replace h := h.1 c
      refine e_push q_124 rfl ?_
      refine e_zreturn q_124 rfl rfl (by decide) ?_
      show Ev S (d + 6) 162 14 [some (.inr (some 60)), some (.inl x1), some (.inl x2), o3, o4] [.inl 0] σ _
      refine e_if (P := ¬ (0 : Int32) = 0) q_162 rfl m_c1 (fun c => absurd c (by decide)) (fun _ => ?_)
      refine e_load q_162 rfl rfl rfl ?_
      refine e_getR q_162 rfl rfl rfl ?_
      refine e_load q_162 rfl rfl rfl ?_
      refine e_getI q_162 rfl rfl rfl ?_
      refine e_load q_162 rfl rfl rfl ?_
      obtain ⟨j3, hjj3, hlj3, h⟩ := h
      refine e_iast q_162 rfl rfl (by decide) hjj3 hlj3 ?_
      refine e_load q_162 rfl rfl rfl ?_
      refine e_getR q_162 rfl rfl rfl ?_
      refine e_push q_162 rfl ?_
      refine e_load q_162 rfl rfl rfl ?_
      refine e_getI q_162 rfl rfl rfl ?_
      refine e_bin (r := 2 * ((up σ 67 j3 x2) 60 9)) q_162 rfl rfl ?_
      refine e_load q_162 rfl rfl rfl ?_
      refine e_load q_162 rfl rfl rfl ?_
      refine e_push q_162 rfl ?_
      refine e_virt q_162 rfl rfl (Nat.le_of_ble_eq_true rfl) rfl rfl (Nat.le_of_ble_eq_true rfl) rfl ?_
      show Ev S (d + 5) 122 0 [some (.inr (some 60)), some (.inl x2), some (.inl 6)] [] (up σ 67 j3 x2) _
      refine e_load q_122 rfl rfl rfl ?_
      refine e_getR q_122 rfl rfl rfl ?_
      refine e_push q_122 rfl ?_
      refine e_push q_122 rfl ?_
      refine e_load q_122 rfl rfl rfl ?_
      refine e_bin (r := 9 * x2) q_122 rfl rfl ?_
      refine e_bin (r := 1 + (9 * x2)) q_122 rfl rfl ?_
      refine e_load q_122 rfl rfl rfl ?_
      refine e_bin (r := (1 + (9 * x2)) + 6) q_122 rfl rfl ?_
      obtain ⟨j4, hjj4, hlj4, h⟩ := h
      refine e_iald q_122 rfl rfl (by decide) hjj4 hlj4 ?_
      refine e_ireturn q_122 rfl rfl ?_
      show Ev S (d + 6) 162 31 [some (.inr (some 60)), some (.inl x1), some (.inl x2), o3, o4] [.inl ((up σ 67 j3 x2) 61 j4), .inl (2 * ((up σ 67 j3 x2) 60 9)), .inr (some 68)] (up σ 67 j3 x2) _
      obtain ⟨j5, hjj5, hlj5, h⟩ := h
      refine e_iast q_162 rfl rfl (by decide) hjj5 hlj5 ?_
      refine e_load q_162 rfl rfl rfl ?_
      refine e_getR q_162 rfl rfl rfl ?_
      refine e_push q_162 rfl ?_
      refine e_load q_162 rfl rfl rfl ?_
      refine e_getI q_162 rfl rfl rfl ?_
      refine e_bin (r := 2 * ((up (up σ 67 j3 x2) 68 j5 ((up σ 67 j3 x2) 61 j4)) 60 9)) q_162 rfl rfl ?_
      refine e_push q_162 rfl ?_
      refine e_bin (r := (2 * ((up (up σ 67 j3 x2) 68 j5 ((up σ 67 j3 x2) 61 j4)) 60 9)) + 1) q_162 rfl rfl ?_
      refine e_load q_162 rfl rfl rfl ?_
      refine e_load q_162 rfl rfl rfl ?_
      refine e_push q_162 rfl ?_
      refine e_virt q_162 rfl rfl (Nat.le_of_ble_eq_true rfl) rfl rfl (Nat.le_of_ble_eq_true rfl) rfl ?_
      show Ev S (d + 5) 122 0 [some (.inr (some 60)), some (.inl x2), some (.inl 7)] [] (up (up σ 67 j3 x2) 68 j5 ((up σ 67 j3 x2) 61 j4)) _
      refine e_load q_122 rfl rfl rfl ?_
      refine e_getR q_122 rfl rfl rfl ?_
      refine e_push q_122 rfl ?_
      refine e_push q_122 rfl ?_
      refine e_load q_122 rfl rfl rfl ?_
      refine e_bin (r := 9 * x2) q_122 rfl rfl ?_
      refine e_bin (r := 1 + (9 * x2)) q_122 rfl rfl ?_
      refine e_load q_122 rfl rfl rfl ?_
      refine e_bin (r := (1 + (9 * x2)) + 7) q_122 rfl rfl ?_
      obtain ⟨j6, hjj6, hlj6, h⟩ := h
      refine e_iald q_122 rfl rfl (by decide) hjj6 hlj6 ?_
      refine e_ireturn q_122 rfl rfl ?_
      show Ev S (d + 6) 162 44 [some (.inr (some 60)), some (.inl x1), some (.inl x2), o3, o4] [.inl ((up (up σ 67 j3 x2) 68 j5 ((up σ 67 j3 x2) 61 j4)) 61 j6), .inl ((2 * ((up (up σ 67 j3 x2) 68 j5 ((up σ 67 j3 x2) 61 j4)) 60 9)) + 1), .inr (some 68)] (up (up σ 67 j3 x2) 68 j5 ((up σ 67 j3 x2) 61 j4)) _
      obtain ⟨j7, hjj7, hlj7, h⟩ := h
      refine e_iast q_162 rfl rfl (by decide) hjj7 hlj7 ?_
      refine e_load q_162 rfl rfl rfl ?_
      refine e_dup q_162 rfl ?_
      refine e_getI q_162 rfl rfl rfl ?_
      refine e_push q_162 rfl ?_
      refine e_bin (r := ((up (up (up σ 67 j3 x2) 68 j5 ((up σ 67 j3 x2) 61 j4)) 68 j7 ((up (up σ 67 j3 x2) 68 j5 ((up σ 67 j3 x2) 61 j4)) 61 j6)) 60 9) + 1) q_162 rfl rfl ?_
      refine e_putI q_162 rfl rfl rfl ?_
      refine e_iinc (ls' := [some (.inr (some 60)), some (.inl x1), some (.inl (x2 + 1)), o3, o4]) q_162 rfl rfl rfl ?_
      refine e_goto q_162 rfl ?_
      exact h
    · replace h := h.2 c
      refine e_push q_124 rfl ?_
      refine e_goto q_124 rfl ?_
      refine e_zreturn q_124 rfl rfl (by decide) ?_
      show Ev S (d + 6) 162 14 [some (.inr (some 60)), some (.inl x1), some (.inl x2), o3, o4] [.inl 1] σ _
      refine e_if (P := ¬ (1 : Int32) = 0) q_162 rfl m_c1 (fun _ => ?_) (fun c => absurd (by decide) c)
      refine e_iinc (ls' := [some (.inr (some 60)), some (.inl x1), some (.inl (x2 + 1)), o3, o4]) q_162 rfl rfl rfl ?_
      refine e_goto q_162 rfl ?_
      exact h
theorem g_162_66 {S : Nat × (Nat → Int32)} {d : Nat} {σ : Mem} {Q : MQ1} {x1 : Int32} {x2 : Int32} {x3 : Int32} {o4 : Option MV}  (h : (((σ 60 9) ≤ x3 → Ev S (d + 6) 162 81 [some (.inr (some 60)), some (.inl x1), some (.inl x2), some (.inl x3), o4] [] σ Q) ∧ (¬ ((σ 60 9) ≤ x3) → ((x2 = 0 → Ev S (d + 6) 162 81 [some (.inr (some 60)), some (.inl x1), some (.inl x2), some (.inl x3), o4] [] σ Q) ∧ (¬ (x2 = 0) → (∃ j1 : Nat, x3 = nI j1 ∧ j1 < 8 ∧ (∃ j2 : Nat, (1 + (9 * (σ 67 j1))) + 6 = nI j2 ∧ j2 < 86 ∧ (∃ j3 : Nat, (1 + (9 * (σ 67 j1))) + 3 = nI j3 ∧ j3 < 86 ∧ (((¬ ((up σ 61 j2 0) 61 j3) = 0) → (∃ j4 : Nat, (1 + (9 * (σ 67 j1))) + 6 = nI j4 ∧ j4 < 86 ∧ (∃ j5 : Nat, (1 + (9 * (σ 67 j1))) + 7 = nI j5 ∧ j5 < 86 ∧ (∃ j6 : Nat, (1 + (9 * (σ 67 j1))) + 6 = nI j6 ∧ j6 < 86 ∧ ((6 ≤ ((up (up σ 61 j2 0) 61 j5 (((up σ 61 j2 0) 61 j4) + 1)) 61 j6) → Ec S (d + 4) 158 [.inr (some 60), .inl (σ 67 j1)] (up (up σ 61 j2 0) 61 j5 (((up σ 61 j2 0) 61 j4) + 1)) (fun rv σ' => Ev S (d + 5) 159 19 [some (.inr (some 60)), some (.inl (σ 67 j1))] (rv ++ []) σ' (fun rv σ' => Ev S (d + 6) 162 78 [some (.inr (some 60)), some (.inl x1), some (.inl x2), some (.inl x3), o4] (rv ++ []) σ' Q))) ∧ (¬ (6 ≤ ((up (up σ 61 j2 0) 61 j5 (((up σ 61 j2 0) 61 j4) + 1)) 61 j6)) → (∃ j7 : Nat, (1 + (9 * (σ 67 j1))) + 7 = nI j7 ∧ j7 < 86 ∧ ((6 ≤ ((up (up σ 61 j2 0) 61 j5 (((up σ 61 j2 0) 61 j4) + 1)) 61 j7) → Ec S (d + 4) 158 [.inr (some 60), .inl (σ 67 j1)] (up (up σ 61 j2 0) 61 j5 (((up σ 61 j2 0) 61 j4) + 1)) (fun rv σ' => Ev S (d + 5) 159 19 [some (.inr (some 60)), some (.inl (σ 67 j1))] (rv ++ []) σ' (fun rv σ' => Ev S (d + 6) 162 78 [some (.inr (some 60)), some (.inl x1), some (.inl x2), some (.inl x3), o4] (rv ++ []) σ' Q))) ∧ (¬ (6 ≤ ((up (up σ 61 j2 0) 61 j5 (((up σ 61 j2 0) 61 j4) + 1)) 61 j7)) → Ec S (d + 3) 150 [.inr (some 60), .inl 2, .inl (σ 67 j1)] (up (up σ 61 j2 0) 61 j5 (((up σ 61 j2 0) 61 j4) + 1)) (fun rv σ' => Ev S (d + 4) 157 16 [some (.inr (some 60)), some (.inl (σ 67 j1))] (rv ++ []) σ' (fun rv σ' => Ev S (d + 5) 159 15 [some (.inr (some 60)), some (.inl (σ 67 j1))] (rv ++ []) σ' (fun rv σ' => Ev S (d + 6) 162 78 [some (.inr (some 60)), some (.inl x1), some (.inl x2), some (.inl x3), o4] (rv ++ []) σ' Q)))))))))))) ∧ (¬ (¬ ((up σ 61 j2 0) 61 j3) = 0) → (∃ j8 : Nat, (1 + (9 * (σ 67 j1))) + 7 = nI j8 ∧ j8 < 86 ∧ (∃ j9 : Nat, (1 + (9 * (σ 67 j1))) + 6 = nI j9 ∧ j9 < 86 ∧ ((6 ≤ ((up (up σ 61 j2 0) 61 j8 (-1)) 61 j9) → Ec S (d + 4) 158 [.inr (some 60), .inl (σ 67 j1)] (up (up σ 61 j2 0) 61 j8 (-1)) (fun rv σ' => Ev S (d + 5) 159 19 [some (.inr (some 60)), some (.inl (σ 67 j1))] (rv ++ []) σ' (fun rv σ' => Ev S (d + 6) 162 78 [some (.inr (some 60)), some (.inl x1), some (.inl x2), some (.inl x3), o4] (rv ++ []) σ' Q))) ∧ (¬ (6 ≤ ((up (up σ 61 j2 0) 61 j8 (-1)) 61 j9)) → (∃ j10 : Nat, (1 + (9 * (σ 67 j1))) + 7 = nI j10 ∧ j10 < 86 ∧ ((6 ≤ ((up (up σ 61 j2 0) 61 j8 (-1)) 61 j10) → Ec S (d + 4) 158 [.inr (some 60), .inl (σ 67 j1)] (up (up σ 61 j2 0) 61 j8 (-1)) (fun rv σ' => Ev S (d + 5) 159 19 [some (.inr (some 60)), some (.inl (σ 67 j1))] (rv ++ []) σ' (fun rv σ' => Ev S (d + 6) 162 78 [some (.inr (some 60)), some (.inl x1), some (.inl x2), some (.inl x3), o4] (rv ++ []) σ' Q))) ∧ (¬ (6 ≤ ((up (up σ 61 j2 0) 61 j8 (-1)) 61 j10)) → Ec S (d + 3) 150 [.inr (some 60), .inl 2, .inl (σ 67 j1)] (up (up σ 61 j2 0) 61 j8 (-1)) (fun rv σ' => Ev S (d + 4) 157 16 [some (.inr (some 60)), some (.inl (σ 67 j1))] (rv ++ []) σ' (fun rv σ' => Ev S (d + 5) 159 15 [some (.inr (some 60)), some (.inl (σ 67 j1))] (rv ++ []) σ' (fun rv σ' => Ev S (d + 6) 162 78 [some (.inr (some 60)), some (.inl x1), some (.inl x2), some (.inl x3), o4] (rv ++ []) σ' Q)))))))))))))))))))) : Ev S (d + 6) 162 66 [some (.inr (some 60)), some (.inl x1), some (.inl x2), some (.inl x3), o4] [] σ Q := by
  refine e_load q_162 rfl rfl rfl ?_
  refine e_load q_162 rfl rfl rfl ?_
  refine e_getI q_162 rfl rfl rfl ?_
  refine e_icmp (P := (σ 60 9) ≤ x3) q_162 rfl m_c3 (fun c => ?_) (fun c => ?_)
  · replace h := h.1 c
    exact h
  · replace h := h.2 c
    refine e_load q_162 rfl rfl rfl ?_
    refine e_if (P := x2 = 0) q_162 rfl m_c0 (fun c => ?_) (fun c => ?_)
    · replace h := h.1 c
      exact h
    · replace h := h.2 c
      refine e_load q_162 rfl rfl rfl ?_
      refine e_load q_162 rfl rfl rfl ?_
      refine e_getR q_162 rfl rfl rfl ?_
      refine e_load q_162 rfl rfl rfl ?_
      obtain ⟨j1, hjj1, hlj1, h⟩ := h
      refine e_iald q_162 rfl rfl (by decide) hjj1 hlj1 ?_
      refine e_virt q_162 rfl rfl (Nat.le_of_ble_eq_true rfl) rfl rfl (Nat.le_of_ble_eq_true rfl) rfl ?_
      show Ev S (d + 5) 159 0 [some (.inr (some 60)), some (.inl (σ 67 j1))] [] σ _
      refine e_load q_159 rfl rfl rfl ?_
      refine e_load q_159 rfl rfl rfl ?_
      refine e_push q_159 rfl ?_
      refine e_push q_159 rfl ?_
      refine e_virt q_159 rfl rfl (Nat.le_of_ble_eq_true rfl) rfl rfl (Nat.le_of_ble_eq_true rfl) rfl ?_
      show Ev S (d + 4) 123 0 [some (.inr (some 60)), some (.inl (σ 67 j1)), some (.inl 6), some (.inl 0)] [] σ _
      refine e_load q_123 rfl rfl rfl ?_
      refine e_getR q_123 rfl rfl rfl ?_
      refine e_push q_123 rfl ?_
      refine e_push q_123 rfl ?_
      refine e_load q_123 rfl rfl rfl ?_
      refine e_bin (r := 9 * (σ 67 j1)) q_123 rfl rfl ?_
      refine e_bin (r := 1 + (9 * (σ 67 j1))) q_123 rfl rfl ?_
      refine e_load q_123 rfl rfl rfl ?_
      refine e_bin (r := (1 + (9 * (σ 67 j1))) + 6) q_123 rfl rfl ?_
      refine e_load q_123 rfl rfl rfl ?_
      obtain ⟨j2, hjj2, hlj2, h⟩ := h
      refine e_iast q_123 rfl rfl (by decide) hjj2 hlj2 ?_
      refine e_return q_123 rfl rfl ?_
      show Ev S (d + 5) 159 5 [some (.inr (some 60)), some (.inl (σ 67 j1))] [] (up σ 61 j2 0) _
      refine e_load q_159 rfl rfl rfl ?_
      refine e_load q_159 rfl rfl rfl ?_
      refine e_push q_159 rfl ?_
      refine e_load q_159 rfl rfl rfl ?_
      refine e_load q_159 rfl rfl rfl ?_
      refine e_virt q_159 rfl rfl (Nat.le_of_ble_eq_true rfl) rfl rfl (Nat.le_of_ble_eq_true rfl) rfl ?_
      show Ev S (d + 4) 156 0 [some (.inr (some 60)), some (.inl (σ 67 j1))] [] (up σ 61 j2 0) _
      refine e_load q_156 rfl rfl rfl ?_
      refine e_load q_156 rfl rfl rfl ?_
      refine e_push q_156 rfl ?_
      refine e_virt q_156 rfl rfl (Nat.le_of_ble_eq_true rfl) rfl rfl (Nat.le_of_ble_eq_true rfl) rfl ?_
      show Ev S (d + 3) 122 0 [some (.inr (some 60)), some (.inl (σ 67 j1)), some (.inl 3)] [] (up σ 61 j2 0) _
      refine e_load q_122 rfl rfl rfl ?_
      refine e_getR q_122 rfl rfl rfl ?_
      refine e_push q_122 rfl ?_
      refine e_push q_122 rfl ?_
      refine e_load q_122 rfl rfl rfl ?_
      refine e_bin (r := 9 * (σ 67 j1)) q_122 rfl rfl ?_
      refine e_bin (r := 1 + (9 * (σ 67 j1))) q_122 rfl rfl ?_
      refine e_load q_122 rfl rfl rfl ?_
      refine e_bin (r := (1 + (9 * (σ 67 j1))) + 3) q_122 rfl rfl ?_
      obtain ⟨j3, hjj3, hlj3, h⟩ := h
      refine e_iald q_122 rfl rfl (by decide) hjj3 hlj3 ?_
      refine e_ireturn q_122 rfl rfl ?_
      show Ev S (d + 4) 156 4 [some (.inr (some 60)), some (.inl (σ 67 j1))] [.inl ((up σ 61 j2 0) 61 j3)] (up σ 61 j2 0) _
      refine e_if (P := ¬ ((up σ 61 j2 0) 61 j3) = 0) q_156 rfl m_c1 (fun c => ?_) (fun c => ?_)
      · replace h := h.1 c
        refine e_load q_156 rfl rfl rfl ?_
        refine e_load q_156 rfl rfl rfl ?_
        refine e_push q_156 rfl ?_
        refine e_virt q_156 rfl rfl (Nat.le_of_ble_eq_true rfl) rfl rfl (Nat.le_of_ble_eq_true rfl) rfl ?_
        show Ev S (d + 3) 122 0 [some (.inr (some 60)), some (.inl (σ 67 j1)), some (.inl 6)] [] (up σ 61 j2 0) _
        refine e_load q_122 rfl rfl rfl ?_
        refine e_getR q_122 rfl rfl rfl ?_
        refine e_push q_122 rfl ?_
        refine e_push q_122 rfl ?_
        refine e_load q_122 rfl rfl rfl ?_
        refine e_bin (r := 9 * (σ 67 j1)) q_122 rfl rfl ?_
        refine e_bin (r := 1 + (9 * (σ 67 j1))) q_122 rfl rfl ?_
        refine e_load q_122 rfl rfl rfl ?_
        refine e_bin (r := (1 + (9 * (σ 67 j1))) + 6) q_122 rfl rfl ?_
        obtain ⟨j4, hjj4, hlj4, h⟩ := h
        refine e_iald q_122 rfl rfl (by decide) hjj4 hlj4 ?_
        refine e_ireturn q_122 rfl rfl ?_
        show Ev S (d + 4) 156 11 [some (.inr (some 60)), some (.inl (σ 67 j1))] [.inl ((up σ 61 j2 0) 61 j4)] (up σ 61 j2 0) _
        refine e_push q_156 rfl ?_
        refine e_bin (r := ((up σ 61 j2 0) 61 j4) + 1) q_156 rfl rfl ?_
        refine e_ireturn q_156 rfl rfl ?_
        show Ev S (d + 5) 159 11 [some (.inr (some 60)), some (.inl (σ 67 j1))] [.inl (((up σ 61 j2 0) 61 j4) + 1), .inl 7, .inl (σ 67 j1), .inr (some 60)] (up σ 61 j2 0) _
        refine e_virt q_159 rfl rfl (Nat.le_of_ble_eq_true rfl) rfl rfl (Nat.le_of_ble_eq_true rfl) rfl ?_
        show Ev S (d + 4) 123 0 [some (.inr (some 60)), some (.inl (σ 67 j1)), some (.inl 7), some (.inl (((up σ 61 j2 0) 61 j4) + 1))] [] (up σ 61 j2 0) _
        refine e_load q_123 rfl rfl rfl ?_
        refine e_getR q_123 rfl rfl rfl ?_
        refine e_push q_123 rfl ?_
        refine e_push q_123 rfl ?_
        refine e_load q_123 rfl rfl rfl ?_
        refine e_bin (r := 9 * (σ 67 j1)) q_123 rfl rfl ?_
        refine e_bin (r := 1 + (9 * (σ 67 j1))) q_123 rfl rfl ?_
        refine e_load q_123 rfl rfl rfl ?_
        refine e_bin (r := (1 + (9 * (σ 67 j1))) + 7) q_123 rfl rfl ?_
        refine e_load q_123 rfl rfl rfl ?_
        obtain ⟨j5, hjj5, hlj5, h⟩ := h
        refine e_iast q_123 rfl rfl (by decide) hjj5 hlj5 ?_
        refine e_return q_123 rfl rfl ?_
        show Ev S (d + 5) 159 12 [some (.inr (some 60)), some (.inl (σ 67 j1))] [] (up (up σ 61 j2 0) 61 j5 (((up σ 61 j2 0) 61 j4) + 1)) _
        refine e_load q_159 rfl rfl rfl ?_
        refine e_load q_159 rfl rfl rfl ?_
        refine e_virt q_159 rfl rfl (Nat.le_of_ble_eq_true rfl) rfl rfl (Nat.le_of_ble_eq_true rfl) rfl ?_
        show Ev S (d + 4) 157 0 [some (.inr (some 60)), some (.inl (σ 67 j1))] [] (up (up σ 61 j2 0) 61 j5 (((up σ 61 j2 0) 61 j4) + 1)) _
        refine e_load q_157 rfl rfl rfl ?_
        refine e_load q_157 rfl rfl rfl ?_
        refine e_push q_157 rfl ?_
        refine e_virt q_157 rfl rfl (Nat.le_of_ble_eq_true rfl) rfl rfl (Nat.le_of_ble_eq_true rfl) rfl ?_
        show Ev S (d + 3) 122 0 [some (.inr (some 60)), some (.inl (σ 67 j1)), some (.inl 6)] [] (up (up σ 61 j2 0) 61 j5 (((up σ 61 j2 0) 61 j4) + 1)) _
        refine e_load q_122 rfl rfl rfl ?_
        refine e_getR q_122 rfl rfl rfl ?_
        refine e_push q_122 rfl ?_
        refine e_push q_122 rfl ?_
        refine e_load q_122 rfl rfl rfl ?_
        refine e_bin (r := 9 * (σ 67 j1)) q_122 rfl rfl ?_
        refine e_bin (r := 1 + (9 * (σ 67 j1))) q_122 rfl rfl ?_
        refine e_load q_122 rfl rfl rfl ?_
        refine e_bin (r := (1 + (9 * (σ 67 j1))) + 6) q_122 rfl rfl ?_
        obtain ⟨j6, hjj6, hlj6, h⟩ := h
        refine e_iald q_122 rfl rfl (by decide) hjj6 hlj6 ?_
        refine e_ireturn q_122 rfl rfl ?_
        show Ev S (d + 4) 157 4 [some (.inr (some 60)), some (.inl (σ 67 j1))] [.inl ((up (up σ 61 j2 0) 61 j5 (((up σ 61 j2 0) 61 j4) + 1)) 61 j6)] (up (up σ 61 j2 0) 61 j5 (((up σ 61 j2 0) 61 j4) + 1)) _
        refine e_push q_157 rfl ?_
        refine e_icmp (P := 6 ≤ ((up (up σ 61 j2 0) 61 j5 (((up σ 61 j2 0) 61 j4) + 1)) 61 j6)) q_157 rfl m_c3 (fun c => ?_) (fun c => ?_)
        · replace h := h.1 c
          refine e_push q_157 rfl ?_
          refine e_zreturn q_157 rfl rfl (by decide) ?_
          show Ev S (d + 5) 159 15 [some (.inr (some 60)), some (.inl (σ 67 j1))] [.inl 0] (up (up σ 61 j2 0) 61 j5 (((up σ 61 j2 0) 61 j4) + 1)) _
          refine e_if (P := ¬ (0 : Int32) = 0) q_159 rfl m_c1 (fun c => absurd c (by decide)) (fun _ => ?_)
          refine e_load q_159 rfl rfl rfl ?_
          refine e_load q_159 rfl rfl rfl ?_
          exact e_virt q_159 rfl rfl (Nat.le_of_ble_eq_true rfl) rfl rfl (Nat.le_of_ble_eq_true rfl) rfl h
        · replace h := h.2 c
          refine e_load q_157 rfl rfl rfl ?_
          refine e_load q_157 rfl rfl rfl ?_
          refine e_push q_157 rfl ?_
          refine e_virt q_157 rfl rfl (Nat.le_of_ble_eq_true rfl) rfl rfl (Nat.le_of_ble_eq_true rfl) rfl ?_
          show Ev S (d + 3) 122 0 [some (.inr (some 60)), some (.inl (σ 67 j1)), some (.inl 7)] [] (up (up σ 61 j2 0) 61 j5 (((up σ 61 j2 0) 61 j4) + 1)) _
          refine e_load q_122 rfl rfl rfl ?_
          refine e_getR q_122 rfl rfl rfl ?_
          refine e_push q_122 rfl ?_
          refine e_push q_122 rfl ?_
          refine e_load q_122 rfl rfl rfl ?_
          refine e_bin (r := 9 * (σ 67 j1)) q_122 rfl rfl ?_
          refine e_bin (r := 1 + (9 * (σ 67 j1))) q_122 rfl rfl ?_
          refine e_load q_122 rfl rfl rfl ?_
          refine e_bin (r := (1 + (9 * (σ 67 j1))) + 7) q_122 rfl rfl ?_
          obtain ⟨j7, hjj7, hlj7, h⟩ := h
          refine e_iald q_122 rfl rfl (by decide) hjj7 hlj7 ?_
          refine e_ireturn q_122 rfl rfl ?_
          show Ev S (d + 4) 157 10 [some (.inr (some 60)), some (.inl (σ 67 j1))] [.inl ((up (up σ 61 j2 0) 61 j5 (((up σ 61 j2 0) 61 j4) + 1)) 61 j7)] (up (up σ 61 j2 0) 61 j5 (((up σ 61 j2 0) 61 j4) + 1)) _
          refine e_push q_157 rfl ?_
          refine e_icmp (P := 6 ≤ ((up (up σ 61 j2 0) 61 j5 (((up σ 61 j2 0) 61 j4) + 1)) 61 j7)) q_157 rfl m_c3 (fun c => ?_) (fun c => ?_)
          · replace h := h.1 c
            refine e_push q_157 rfl ?_
            refine e_zreturn q_157 rfl rfl (by decide) ?_
            show Ev S (d + 5) 159 15 [some (.inr (some 60)), some (.inl (σ 67 j1))] [.inl 0] (up (up σ 61 j2 0) 61 j5 (((up σ 61 j2 0) 61 j4) + 1)) _
            refine e_if (P := ¬ (0 : Int32) = 0) q_159 rfl m_c1 (fun c => absurd c (by decide)) (fun _ => ?_)
            refine e_load q_159 rfl rfl rfl ?_
            refine e_load q_159 rfl rfl rfl ?_
            exact e_virt q_159 rfl rfl (Nat.le_of_ble_eq_true rfl) rfl rfl (Nat.le_of_ble_eq_true rfl) rfl h
          · replace h := h.2 c
            refine e_load q_157 rfl rfl rfl ?_
            refine e_push q_157 rfl ?_
            refine e_load q_157 rfl rfl rfl ?_
            exact e_virt q_157 rfl rfl (Nat.le_of_ble_eq_true rfl) rfl rfl (Nat.le_of_ble_eq_true rfl) rfl h
      · replace h := h.2 c
        refine e_push q_156 rfl ?_
        refine e_goto q_156 rfl ?_
        refine e_ireturn q_156 rfl rfl ?_
        show Ev S (d + 5) 159 11 [some (.inr (some 60)), some (.inl (σ 67 j1))] [.inl (-1), .inl 7, .inl (σ 67 j1), .inr (some 60)] (up σ 61 j2 0) _
        refine e_virt q_159 rfl rfl (Nat.le_of_ble_eq_true rfl) rfl rfl (Nat.le_of_ble_eq_true rfl) rfl ?_
        show Ev S (d + 4) 123 0 [some (.inr (some 60)), some (.inl (σ 67 j1)), some (.inl 7), some (.inl (-1))] [] (up σ 61 j2 0) _
        refine e_load q_123 rfl rfl rfl ?_
        refine e_getR q_123 rfl rfl rfl ?_
        refine e_push q_123 rfl ?_
        refine e_push q_123 rfl ?_
        refine e_load q_123 rfl rfl rfl ?_
        refine e_bin (r := 9 * (σ 67 j1)) q_123 rfl rfl ?_
        refine e_bin (r := 1 + (9 * (σ 67 j1))) q_123 rfl rfl ?_
        refine e_load q_123 rfl rfl rfl ?_
        refine e_bin (r := (1 + (9 * (σ 67 j1))) + 7) q_123 rfl rfl ?_
        refine e_load q_123 rfl rfl rfl ?_
        obtain ⟨j8, hjj8, hlj8, h⟩ := h
        refine e_iast q_123 rfl rfl (by decide) hjj8 hlj8 ?_
        refine e_return q_123 rfl rfl ?_
        show Ev S (d + 5) 159 12 [some (.inr (some 60)), some (.inl (σ 67 j1))] [] (up (up σ 61 j2 0) 61 j8 (-1)) _
        refine e_load q_159 rfl rfl rfl ?_
        refine e_load q_159 rfl rfl rfl ?_
        refine e_virt q_159 rfl rfl (Nat.le_of_ble_eq_true rfl) rfl rfl (Nat.le_of_ble_eq_true rfl) rfl ?_
        show Ev S (d + 4) 157 0 [some (.inr (some 60)), some (.inl (σ 67 j1))] [] (up (up σ 61 j2 0) 61 j8 (-1)) _
        refine e_load q_157 rfl rfl rfl ?_
        refine e_load q_157 rfl rfl rfl ?_
        refine e_push q_157 rfl ?_
        refine e_virt q_157 rfl rfl (Nat.le_of_ble_eq_true rfl) rfl rfl (Nat.le_of_ble_eq_true rfl) rfl ?_
        show Ev S (d + 3) 122 0 [some (.inr (some 60)), some (.inl (σ 67 j1)), some (.inl 6)] [] (up (up σ 61 j2 0) 61 j8 (-1)) _
        refine e_load q_122 rfl rfl rfl ?_
        refine e_getR q_122 rfl rfl rfl ?_
        refine e_push q_122 rfl ?_
        refine e_push q_122 rfl ?_
        refine e_load q_122 rfl rfl rfl ?_
        refine e_bin (r := 9 * (σ 67 j1)) q_122 rfl rfl ?_
        refine e_bin (r := 1 + (9 * (σ 67 j1))) q_122 rfl rfl ?_
        refine e_load q_122 rfl rfl rfl ?_
        refine e_bin (r := (1 + (9 * (σ 67 j1))) + 6) q_122 rfl rfl ?_
        obtain ⟨j9, hjj9, hlj9, h⟩ := h
        refine e_iald q_122 rfl rfl (by decide) hjj9 hlj9 ?_
        refine e_ireturn q_122 rfl rfl ?_
        show Ev S (d + 4) 157 4 [some (.inr (some 60)), some (.inl (σ 67 j1))] [.inl ((up (up σ 61 j2 0) 61 j8 (-1)) 61 j9)] (up (up σ 61 j2 0) 61 j8 (-1)) _
        refine e_push q_157 rfl ?_
        refine e_icmp (P := 6 ≤ ((up (up σ 61 j2 0) 61 j8 (-1)) 61 j9)) q_157 rfl m_c3 (fun c => ?_) (fun c => ?_)
        · replace h := h.1 c
          refine e_push q_157 rfl ?_
          refine e_zreturn q_157 rfl rfl (by decide) ?_
          show Ev S (d + 5) 159 15 [some (.inr (some 60)), some (.inl (σ 67 j1))] [.inl 0] (up (up σ 61 j2 0) 61 j8 (-1)) _
          refine e_if (P := ¬ (0 : Int32) = 0) q_159 rfl m_c1 (fun c => absurd c (by decide)) (fun _ => ?_)
          refine e_load q_159 rfl rfl rfl ?_
          refine e_load q_159 rfl rfl rfl ?_
          exact e_virt q_159 rfl rfl (Nat.le_of_ble_eq_true rfl) rfl rfl (Nat.le_of_ble_eq_true rfl) rfl h
        · replace h := h.2 c
          refine e_load q_157 rfl rfl rfl ?_
          refine e_load q_157 rfl rfl rfl ?_
          refine e_push q_157 rfl ?_
          refine e_virt q_157 rfl rfl (Nat.le_of_ble_eq_true rfl) rfl rfl (Nat.le_of_ble_eq_true rfl) rfl ?_
          show Ev S (d + 3) 122 0 [some (.inr (some 60)), some (.inl (σ 67 j1)), some (.inl 7)] [] (up (up σ 61 j2 0) 61 j8 (-1)) _
          refine e_load q_122 rfl rfl rfl ?_
          refine e_getR q_122 rfl rfl rfl ?_
          refine e_push q_122 rfl ?_
          refine e_push q_122 rfl ?_
          refine e_load q_122 rfl rfl rfl ?_
          refine e_bin (r := 9 * (σ 67 j1)) q_122 rfl rfl ?_
          refine e_bin (r := 1 + (9 * (σ 67 j1))) q_122 rfl rfl ?_
          refine e_load q_122 rfl rfl rfl ?_
          refine e_bin (r := (1 + (9 * (σ 67 j1))) + 7) q_122 rfl rfl ?_
          obtain ⟨j10, hjj10, hlj10, h⟩ := h
          refine e_iald q_122 rfl rfl (by decide) hjj10 hlj10 ?_
          refine e_ireturn q_122 rfl rfl ?_
          show Ev S (d + 4) 157 10 [some (.inr (some 60)), some (.inl (σ 67 j1))] [.inl ((up (up σ 61 j2 0) 61 j8 (-1)) 61 j10)] (up (up σ 61 j2 0) 61 j8 (-1)) _
          refine e_push q_157 rfl ?_
          refine e_icmp (P := 6 ≤ ((up (up σ 61 j2 0) 61 j8 (-1)) 61 j10)) q_157 rfl m_c3 (fun c => ?_) (fun c => ?_)
          · replace h := h.1 c
            refine e_push q_157 rfl ?_
            refine e_zreturn q_157 rfl rfl (by decide) ?_
            show Ev S (d + 5) 159 15 [some (.inr (some 60)), some (.inl (σ 67 j1))] [.inl 0] (up (up σ 61 j2 0) 61 j8 (-1)) _
            refine e_if (P := ¬ (0 : Int32) = 0) q_159 rfl m_c1 (fun c => absurd c (by decide)) (fun _ => ?_)
            refine e_load q_159 rfl rfl rfl ?_
            refine e_load q_159 rfl rfl rfl ?_
            exact e_virt q_159 rfl rfl (Nat.le_of_ble_eq_true rfl) rfl rfl (Nat.le_of_ble_eq_true rfl) rfl h
          · replace h := h.2 c
            refine e_load q_157 rfl rfl rfl ?_
            refine e_push q_157 rfl ?_
            refine e_load q_157 rfl rfl rfl ?_
            exact e_virt q_157 rfl rfl (Nat.le_of_ble_eq_true rfl) rfl rfl (Nat.le_of_ble_eq_true rfl) rfl h
theorem g_162_81 {S : Nat × (Nat → Int32)} {d : Nat} {σ : Mem} {Q : MQ1} {x1 : Int32} {x2 : Int32} {o3 : Option MV} {o4 : Option MV}  (h : ((x2 = 0 → Ec S (d + 5) 163 [.inr (some 60), .inr (some 68)] σ (fun rv σ' => Ev S (d + 6) 162 120 [some (.inr (some 60)), some (.inl x1), some (.inl x2), o3, o4] (rv ++ []) σ' Q)) ∧ (¬ (x2 = 0) → Ec S (d + 5) 161 [.inr (some 60), .inl x1] σ (fun rv σ' => Ev S (d + 6) 162 86 [some (.inr (some 60)), some (.inl x1), some (.inl x2), o3, o4] (rv ++ []) σ' Q)))) : Ev S (d + 6) 162 81 [some (.inr (some 60)), some (.inl x1), some (.inl x2), o3, o4] [] σ Q := by
  refine e_load q_162 rfl rfl rfl ?_
  refine e_if (P := x2 = 0) q_162 rfl m_c0 (fun c => ?_) (fun c => ?_)
  · replace h := h.1 c
    refine e_load q_162 rfl rfl rfl ?_
    refine e_load q_162 rfl rfl rfl ?_
    refine e_getR q_162 rfl rfl rfl ?_
    exact e_virt q_162 rfl rfl (Nat.le_of_ble_eq_true rfl) rfl rfl (Nat.le_of_ble_eq_true rfl) rfl h
  · replace h := h.2 c
    refine e_load q_162 rfl rfl rfl ?_
    refine e_load q_162 rfl rfl rfl ?_
    exact e_virt q_162 rfl rfl (Nat.le_of_ble_eq_true rfl) rfl rfl (Nat.le_of_ble_eq_true rfl) rfl h
theorem g_162_78 {S : Nat × (Nat → Int32)} {d : Nat} {σ : Mem} {Q : MQ1} {x1 : Int32} {o2 : Option MV} {x3 : Int32} {o4 : Option MV} {y0 : Int32}  (h : Ev S (d + 6) 162 66 [some (.inr (some 60)), some (.inl x1), some (.inl y0), some (.inl (x3 + 1)), o4] [] σ Q) : Ev S (d + 6) 162 78 [some (.inr (some 60)), some (.inl x1), o2, some (.inl x3), o4] [.inl y0] σ Q := by
  refine e_store (ls' := [some (.inr (some 60)), some (.inl x1), some (.inl y0), some (.inl x3), o4]) q_162 rfl (Nat.le_of_ble_eq_true rfl) rfl rfl ?_
  refine e_iinc (ls' := [some (.inr (some 60)), some (.inl x1), some (.inl y0), some (.inl (x3 + 1)), o4]) q_162 rfl rfl rfl ?_
  refine e_goto q_162 rfl ?_
  exact h
theorem g_162_120 {S : Nat × (Nat → Int32)} {d : Nat} {σ : Mem} {Q : MQ1} {o0 : Option MV} {o1 : Option MV} {o2 : Option MV} {o3 : Option MV} {o4 : Option MV}  (h : Q [.inl 1] σ) : Ev S (d + 6) 162 120 [o0, o1, o2, o3, o4] [] σ Q := by
  refine e_push q_162 rfl ?_
  exact e_zreturn q_162 rfl rfl (by decide) h
theorem g_162_86 {S : Nat × (Nat → Int32)} {d : Nat} {σ : Mem} {Q : MQ1} {x1 : Int32} {o2 : Option MV} {o3 : Option MV} {o4 : Option MV}  (h : Ev S (d + 6) 162 91 [some (.inr (some 60)), some (.inl x1), o2, some (.inl ((σ 60 9) - 1)), o4] [] σ Q) : Ev S (d + 6) 162 86 [some (.inr (some 60)), some (.inl x1), o2, o3, o4] [] σ Q := by
  refine e_load q_162 rfl rfl rfl ?_
  refine e_getI q_162 rfl rfl rfl ?_
  refine e_push q_162 rfl ?_
  refine e_bin (r := (σ 60 9) - 1) q_162 rfl rfl ?_
  refine e_store (ls' := [some (.inr (some 60)), some (.inl x1), o2, some (.inl ((σ 60 9) - 1)), o4]) q_162 rfl (Nat.le_of_ble_eq_true rfl) rfl rfl ?_
  exact h
theorem g_162_91 {S : Nat × (Nat → Int32)} {d : Nat} {σ : Mem} {Q : MQ1} {x1 : Int32} {o2 : Option MV} {x3 : Int32} {o4 : Option MV}  (h : ((x3 < 0 → ((x3 < 0 → Ev S (d + 6) 162 81 [some (.inr (some 60)), some (.inl x1), some (.inl 0), some (.inl x3), o4] [] σ Q) ∧ (¬ (x3 < 0) → Ev S (d + 6) 162 81 [some (.inr (some 60)), some (.inl x1), some (.inl 1), some (.inl x3), o4] [] σ Q))) ∧ (¬ (x3 < 0) → (∃ j1 : Nat, x3 = nI j1 ∧ j1 < 8 ∧ Ec S (d + 5) 158 [.inr (some 60), .inl (σ 67 j1)] σ (fun rv σ' => Ev S (d + 6) 162 99 [some (.inr (some 60)), some (.inl x1), o2, some (.inl x3), o4] (rv ++ []) σ' Q))))) : Ev S (d + 6) 162 91 [some (.inr (some 60)), some (.inl x1), o2, some (.inl x3), o4] [] σ Q := by
  refine e_load q_162 rfl rfl rfl ?_
  refine e_if (P := x3 < 0) q_162 rfl m_c2 (fun c => ?_) (fun c => ?_)
  · replace h := h.1 c
    refine e_load q_162 rfl rfl rfl ?_
    refine e_if (P := x3 < 0) q_162 rfl m_c2 (fun c => ?_) (fun c => ?_)
    · replace h := h.1 c
      refine e_push q_162 rfl ?_
      refine e_store (ls' := [some (.inr (some 60)), some (.inl x1), some (.inl 0), some (.inl x3), o4]) q_162 rfl (Nat.le_of_ble_eq_true rfl) rfl rfl ?_
      refine e_goto q_162 rfl ?_
      exact h
    · replace h := h.2 c
      refine e_push q_162 rfl ?_
      refine e_goto q_162 rfl ?_
      refine e_store (ls' := [some (.inr (some 60)), some (.inl x1), some (.inl 1), some (.inl x3), o4]) q_162 rfl (Nat.le_of_ble_eq_true rfl) rfl rfl ?_
      refine e_goto q_162 rfl ?_
      exact h
  · replace h := h.2 c
    refine e_load q_162 rfl rfl rfl ?_
    refine e_load q_162 rfl rfl rfl ?_
    refine e_getR q_162 rfl rfl rfl ?_
    refine e_load q_162 rfl rfl rfl ?_
    obtain ⟨j1, hjj1, hlj1, h⟩ := h
    refine e_iald q_162 rfl rfl (by decide) hjj1 hlj1 ?_
    exact e_virt q_162 rfl rfl (Nat.le_of_ble_eq_true rfl) rfl rfl (Nat.le_of_ble_eq_true rfl) rfl h
theorem g_162_99 {S : Nat × (Nat → Int32)} {d : Nat} {σ : Mem} {Q : MQ1} {x1 : Int32} {o2 : Option MV} {x3 : Int32} {o4 : Option MV} {y0 : Int32}  (h : (((¬ y0 = 0) → ((x3 < 0 → Ev S (d + 6) 162 81 [some (.inr (some 60)), some (.inl x1), some (.inl 0), some (.inl x3), o4] [] σ Q) ∧ (¬ (x3 < 0) → Ev S (d + 6) 162 81 [some (.inr (some 60)), some (.inl x1), some (.inl 1), some (.inl x3), o4] [] σ Q))) ∧ (¬ (¬ y0 = 0) → (∃ j1 : Nat, x3 = nI j1 ∧ j1 < 8 ∧ (∃ j2 : Nat, (1 + (9 * (σ 67 j1))) + 6 = nI j2 ∧ j2 < 86 ∧ (∃ j3 : Nat, (1 + (9 * (σ 67 j1))) + 3 = nI j3 ∧ j3 < 86 ∧ (((¬ ((up σ 61 j2 0) 61 j3) = 0) → (∃ j4 : Nat, (1 + (9 * (σ 67 j1))) + 6 = nI j4 ∧ j4 < 86 ∧ (∃ j5 : Nat, (1 + (9 * (σ 67 j1))) + 7 = nI j5 ∧ j5 < 86 ∧ (∃ j6 : Nat, (1 + (9 * (σ 67 j1))) + 6 = nI j6 ∧ j6 < 86 ∧ ((6 ≤ ((up (up σ 61 j2 0) 61 j5 (((up σ 61 j2 0) 61 j4) + 1)) 61 j6) → Ec S (d + 4) 158 [.inr (some 60), .inl (σ 67 j1)] (up (up σ 61 j2 0) 61 j5 (((up σ 61 j2 0) 61 j4) + 1)) (fun rv σ' => Ev S (d + 5) 159 19 [some (.inr (some 60)), some (.inl (σ 67 j1))] (rv ++ []) σ' (fun rv σ' => Ev S (d + 6) 162 106 [some (.inr (some 60)), some (.inl x1), o2, some (.inl x3), o4] (rv ++ []) σ' Q))) ∧ (¬ (6 ≤ ((up (up σ 61 j2 0) 61 j5 (((up σ 61 j2 0) 61 j4) + 1)) 61 j6)) → (∃ j7 : Nat, (1 + (9 * (σ 67 j1))) + 7 = nI j7 ∧ j7 < 86 ∧ ((6 ≤ ((up (up σ 61 j2 0) 61 j5 (((up σ 61 j2 0) 61 j4) + 1)) 61 j7) → Ec S (d + 4) 158 [.inr (some 60), .inl (σ 67 j1)] (up (up σ 61 j2 0) 61 j5 (((up σ 61 j2 0) 61 j4) + 1)) (fun rv σ' => Ev S (d + 5) 159 19 [some (.inr (some 60)), some (.inl (σ 67 j1))] (rv ++ []) σ' (fun rv σ' => Ev S (d + 6) 162 106 [some (.inr (some 60)), some (.inl x1), o2, some (.inl x3), o4] (rv ++ []) σ' Q))) ∧ (¬ (6 ≤ ((up (up σ 61 j2 0) 61 j5 (((up σ 61 j2 0) 61 j4) + 1)) 61 j7)) → Ec S (d + 3) 150 [.inr (some 60), .inl 2, .inl (σ 67 j1)] (up (up σ 61 j2 0) 61 j5 (((up σ 61 j2 0) 61 j4) + 1)) (fun rv σ' => Ev S (d + 4) 157 16 [some (.inr (some 60)), some (.inl (σ 67 j1))] (rv ++ []) σ' (fun rv σ' => Ev S (d + 5) 159 15 [some (.inr (some 60)), some (.inl (σ 67 j1))] (rv ++ []) σ' (fun rv σ' => Ev S (d + 6) 162 106 [some (.inr (some 60)), some (.inl x1), o2, some (.inl x3), o4] (rv ++ []) σ' Q)))))))))))) ∧ (¬ (¬ ((up σ 61 j2 0) 61 j3) = 0) → (∃ j8 : Nat, (1 + (9 * (σ 67 j1))) + 7 = nI j8 ∧ j8 < 86 ∧ (∃ j9 : Nat, (1 + (9 * (σ 67 j1))) + 6 = nI j9 ∧ j9 < 86 ∧ ((6 ≤ ((up (up σ 61 j2 0) 61 j8 (-1)) 61 j9) → Ec S (d + 4) 158 [.inr (some 60), .inl (σ 67 j1)] (up (up σ 61 j2 0) 61 j8 (-1)) (fun rv σ' => Ev S (d + 5) 159 19 [some (.inr (some 60)), some (.inl (σ 67 j1))] (rv ++ []) σ' (fun rv σ' => Ev S (d + 6) 162 106 [some (.inr (some 60)), some (.inl x1), o2, some (.inl x3), o4] (rv ++ []) σ' Q))) ∧ (¬ (6 ≤ ((up (up σ 61 j2 0) 61 j8 (-1)) 61 j9)) → (∃ j10 : Nat, (1 + (9 * (σ 67 j1))) + 7 = nI j10 ∧ j10 < 86 ∧ ((6 ≤ ((up (up σ 61 j2 0) 61 j8 (-1)) 61 j10) → Ec S (d + 4) 158 [.inr (some 60), .inl (σ 67 j1)] (up (up σ 61 j2 0) 61 j8 (-1)) (fun rv σ' => Ev S (d + 5) 159 19 [some (.inr (some 60)), some (.inl (σ 67 j1))] (rv ++ []) σ' (fun rv σ' => Ev S (d + 6) 162 106 [some (.inr (some 60)), some (.inl x1), o2, some (.inl x3), o4] (rv ++ []) σ' Q))) ∧ (¬ (6 ≤ ((up (up σ 61 j2 0) 61 j8 (-1)) 61 j10)) → Ec S (d + 3) 150 [.inr (some 60), .inl 2, .inl (σ 67 j1)] (up (up σ 61 j2 0) 61 j8 (-1)) (fun rv σ' => Ev S (d + 4) 157 16 [some (.inr (some 60)), some (.inl (σ 67 j1))] (rv ++ []) σ' (fun rv σ' => Ev S (d + 5) 159 15 [some (.inr (some 60)), some (.inl (σ 67 j1))] (rv ++ []) σ' (fun rv σ' => Ev S (d + 6) 162 106 [some (.inr (some 60)), some (.inl x1), o2, some (.inl x3), o4] (rv ++ []) σ' Q)))))))))))))))))) : Ev S (d + 6) 162 99 [some (.inr (some 60)), some (.inl x1), o2, some (.inl x3), o4] [.inl y0] σ Q := by
  refine e_if (P := ¬ y0 = 0) q_162 rfl m_c1 (fun c => ?_) (fun c => ?_)
  · replace h := h.1 c
    refine e_load q_162 rfl rfl rfl ?_
    refine e_if (P := x3 < 0) q_162 rfl m_c2 (fun c => ?_) (fun c => ?_)
    · replace h := h.1 c
      refine e_push q_162 rfl ?_
      refine e_store (ls' := [some (.inr (some 60)), some (.inl x1), some (.inl 0), some (.inl x3), o4]) q_162 rfl (Nat.le_of_ble_eq_true rfl) rfl rfl ?_
      refine e_goto q_162 rfl ?_
      exact h
    · replace h := h.2 c
      refine e_push q_162 rfl ?_
      refine e_goto q_162 rfl ?_
      refine e_store (ls' := [some (.inr (some 60)), some (.inl x1), some (.inl 1), some (.inl x3), o4]) q_162 rfl (Nat.le_of_ble_eq_true rfl) rfl rfl ?_
      refine e_goto q_162 rfl ?_
      exact h
  · replace h := h.2 c
    refine e_load q_162 rfl rfl rfl ?_
    refine e_load q_162 rfl rfl rfl ?_
    refine e_getR q_162 rfl rfl rfl ?_
    refine e_load q_162 rfl rfl rfl ?_
    obtain ⟨j1, hjj1, hlj1, h⟩ := h
    refine e_iald q_162 rfl rfl (by decide) hjj1 hlj1 ?_
    refine e_virt q_162 rfl rfl (Nat.le_of_ble_eq_true rfl) rfl rfl (Nat.le_of_ble_eq_true rfl) rfl ?_
    show Ev S (d + 5) 159 0 [some (.inr (some 60)), some (.inl (σ 67 j1))] [] σ _
    refine e_load q_159 rfl rfl rfl ?_
    refine e_load q_159 rfl rfl rfl ?_
    refine e_push q_159 rfl ?_
    refine e_push q_159 rfl ?_
    refine e_virt q_159 rfl rfl (Nat.le_of_ble_eq_true rfl) rfl rfl (Nat.le_of_ble_eq_true rfl) rfl ?_
    show Ev S (d + 4) 123 0 [some (.inr (some 60)), some (.inl (σ 67 j1)), some (.inl 6), some (.inl 0)] [] σ _
    refine e_load q_123 rfl rfl rfl ?_
    refine e_getR q_123 rfl rfl rfl ?_
    refine e_push q_123 rfl ?_
    refine e_push q_123 rfl ?_
    refine e_load q_123 rfl rfl rfl ?_
    refine e_bin (r := 9 * (σ 67 j1)) q_123 rfl rfl ?_
    refine e_bin (r := 1 + (9 * (σ 67 j1))) q_123 rfl rfl ?_
    refine e_load q_123 rfl rfl rfl ?_
    refine e_bin (r := (1 + (9 * (σ 67 j1))) + 6) q_123 rfl rfl ?_
    refine e_load q_123 rfl rfl rfl ?_
    obtain ⟨j2, hjj2, hlj2, h⟩ := h
    refine e_iast q_123 rfl rfl (by decide) hjj2 hlj2 ?_
    refine e_return q_123 rfl rfl ?_
    show Ev S (d + 5) 159 5 [some (.inr (some 60)), some (.inl (σ 67 j1))] [] (up σ 61 j2 0) _
    refine e_load q_159 rfl rfl rfl ?_
    refine e_load q_159 rfl rfl rfl ?_
    refine e_push q_159 rfl ?_
    refine e_load q_159 rfl rfl rfl ?_
    refine e_load q_159 rfl rfl rfl ?_
    refine e_virt q_159 rfl rfl (Nat.le_of_ble_eq_true rfl) rfl rfl (Nat.le_of_ble_eq_true rfl) rfl ?_
    show Ev S (d + 4) 156 0 [some (.inr (some 60)), some (.inl (σ 67 j1))] [] (up σ 61 j2 0) _
    refine e_load q_156 rfl rfl rfl ?_
    refine e_load q_156 rfl rfl rfl ?_
    refine e_push q_156 rfl ?_
    refine e_virt q_156 rfl rfl (Nat.le_of_ble_eq_true rfl) rfl rfl (Nat.le_of_ble_eq_true rfl) rfl ?_
    show Ev S (d + 3) 122 0 [some (.inr (some 60)), some (.inl (σ 67 j1)), some (.inl 3)] [] (up σ 61 j2 0) _
    refine e_load q_122 rfl rfl rfl ?_
    refine e_getR q_122 rfl rfl rfl ?_
    refine e_push q_122 rfl ?_
    refine e_push q_122 rfl ?_
    refine e_load q_122 rfl rfl rfl ?_
    refine e_bin (r := 9 * (σ 67 j1)) q_122 rfl rfl ?_
    refine e_bin (r := 1 + (9 * (σ 67 j1))) q_122 rfl rfl ?_
    refine e_load q_122 rfl rfl rfl ?_
    refine e_bin (r := (1 + (9 * (σ 67 j1))) + 3) q_122 rfl rfl ?_
    obtain ⟨j3, hjj3, hlj3, h⟩ := h
    refine e_iald q_122 rfl rfl (by decide) hjj3 hlj3 ?_
    refine e_ireturn q_122 rfl rfl ?_
    show Ev S (d + 4) 156 4 [some (.inr (some 60)), some (.inl (σ 67 j1))] [.inl ((up σ 61 j2 0) 61 j3)] (up σ 61 j2 0) _
    refine e_if (P := ¬ ((up σ 61 j2 0) 61 j3) = 0) q_156 rfl m_c1 (fun c => ?_) (fun c => ?_)
    · replace h := h.1 c
      refine e_load q_156 rfl rfl rfl ?_
      refine e_load q_156 rfl rfl rfl ?_
      refine e_push q_156 rfl ?_
      refine e_virt q_156 rfl rfl (Nat.le_of_ble_eq_true rfl) rfl rfl (Nat.le_of_ble_eq_true rfl) rfl ?_
      show Ev S (d + 3) 122 0 [some (.inr (some 60)), some (.inl (σ 67 j1)), some (.inl 6)] [] (up σ 61 j2 0) _
      refine e_load q_122 rfl rfl rfl ?_
      refine e_getR q_122 rfl rfl rfl ?_
      refine e_push q_122 rfl ?_
      refine e_push q_122 rfl ?_
      refine e_load q_122 rfl rfl rfl ?_
      refine e_bin (r := 9 * (σ 67 j1)) q_122 rfl rfl ?_
      refine e_bin (r := 1 + (9 * (σ 67 j1))) q_122 rfl rfl ?_
      refine e_load q_122 rfl rfl rfl ?_
      refine e_bin (r := (1 + (9 * (σ 67 j1))) + 6) q_122 rfl rfl ?_
      obtain ⟨j4, hjj4, hlj4, h⟩ := h
      refine e_iald q_122 rfl rfl (by decide) hjj4 hlj4 ?_
      refine e_ireturn q_122 rfl rfl ?_
      show Ev S (d + 4) 156 11 [some (.inr (some 60)), some (.inl (σ 67 j1))] [.inl ((up σ 61 j2 0) 61 j4)] (up σ 61 j2 0) _
      refine e_push q_156 rfl ?_
      refine e_bin (r := ((up σ 61 j2 0) 61 j4) + 1) q_156 rfl rfl ?_
      refine e_ireturn q_156 rfl rfl ?_
      show Ev S (d + 5) 159 11 [some (.inr (some 60)), some (.inl (σ 67 j1))] [.inl (((up σ 61 j2 0) 61 j4) + 1), .inl 7, .inl (σ 67 j1), .inr (some 60)] (up σ 61 j2 0) _
      refine e_virt q_159 rfl rfl (Nat.le_of_ble_eq_true rfl) rfl rfl (Nat.le_of_ble_eq_true rfl) rfl ?_
      show Ev S (d + 4) 123 0 [some (.inr (some 60)), some (.inl (σ 67 j1)), some (.inl 7), some (.inl (((up σ 61 j2 0) 61 j4) + 1))] [] (up σ 61 j2 0) _
      refine e_load q_123 rfl rfl rfl ?_
      refine e_getR q_123 rfl rfl rfl ?_
      refine e_push q_123 rfl ?_
      refine e_push q_123 rfl ?_
      refine e_load q_123 rfl rfl rfl ?_
      refine e_bin (r := 9 * (σ 67 j1)) q_123 rfl rfl ?_
      refine e_bin (r := 1 + (9 * (σ 67 j1))) q_123 rfl rfl ?_
      refine e_load q_123 rfl rfl rfl ?_
      refine e_bin (r := (1 + (9 * (σ 67 j1))) + 7) q_123 rfl rfl ?_
      refine e_load q_123 rfl rfl rfl ?_
      obtain ⟨j5, hjj5, hlj5, h⟩ := h
      refine e_iast q_123 rfl rfl (by decide) hjj5 hlj5 ?_
      refine e_return q_123 rfl rfl ?_
      show Ev S (d + 5) 159 12 [some (.inr (some 60)), some (.inl (σ 67 j1))] [] (up (up σ 61 j2 0) 61 j5 (((up σ 61 j2 0) 61 j4) + 1)) _
      refine e_load q_159 rfl rfl rfl ?_
      refine e_load q_159 rfl rfl rfl ?_
      refine e_virt q_159 rfl rfl (Nat.le_of_ble_eq_true rfl) rfl rfl (Nat.le_of_ble_eq_true rfl) rfl ?_
      show Ev S (d + 4) 157 0 [some (.inr (some 60)), some (.inl (σ 67 j1))] [] (up (up σ 61 j2 0) 61 j5 (((up σ 61 j2 0) 61 j4) + 1)) _
      refine e_load q_157 rfl rfl rfl ?_
      refine e_load q_157 rfl rfl rfl ?_
      refine e_push q_157 rfl ?_
      refine e_virt q_157 rfl rfl (Nat.le_of_ble_eq_true rfl) rfl rfl (Nat.le_of_ble_eq_true rfl) rfl ?_
      show Ev S (d + 3) 122 0 [some (.inr (some 60)), some (.inl (σ 67 j1)), some (.inl 6)] [] (up (up σ 61 j2 0) 61 j5 (((up σ 61 j2 0) 61 j4) + 1)) _
      refine e_load q_122 rfl rfl rfl ?_
      refine e_getR q_122 rfl rfl rfl ?_
      refine e_push q_122 rfl ?_
      refine e_push q_122 rfl ?_
      refine e_load q_122 rfl rfl rfl ?_
      refine e_bin (r := 9 * (σ 67 j1)) q_122 rfl rfl ?_
      refine e_bin (r := 1 + (9 * (σ 67 j1))) q_122 rfl rfl ?_
      refine e_load q_122 rfl rfl rfl ?_
      refine e_bin (r := (1 + (9 * (σ 67 j1))) + 6) q_122 rfl rfl ?_
      obtain ⟨j6, hjj6, hlj6, h⟩ := h
      refine e_iald q_122 rfl rfl (by decide) hjj6 hlj6 ?_
      refine e_ireturn q_122 rfl rfl ?_
      show Ev S (d + 4) 157 4 [some (.inr (some 60)), some (.inl (σ 67 j1))] [.inl ((up (up σ 61 j2 0) 61 j5 (((up σ 61 j2 0) 61 j4) + 1)) 61 j6)] (up (up σ 61 j2 0) 61 j5 (((up σ 61 j2 0) 61 j4) + 1)) _
      refine e_push q_157 rfl ?_
      refine e_icmp (P := 6 ≤ ((up (up σ 61 j2 0) 61 j5 (((up σ 61 j2 0) 61 j4) + 1)) 61 j6)) q_157 rfl m_c3 (fun c => ?_) (fun c => ?_)
      · replace h := h.1 c
        refine e_push q_157 rfl ?_
        refine e_zreturn q_157 rfl rfl (by decide) ?_
        show Ev S (d + 5) 159 15 [some (.inr (some 60)), some (.inl (σ 67 j1))] [.inl 0] (up (up σ 61 j2 0) 61 j5 (((up σ 61 j2 0) 61 j4) + 1)) _
        refine e_if (P := ¬ (0 : Int32) = 0) q_159 rfl m_c1 (fun c => absurd c (by decide)) (fun _ => ?_)
        refine e_load q_159 rfl rfl rfl ?_
        refine e_load q_159 rfl rfl rfl ?_
        exact e_virt q_159 rfl rfl (Nat.le_of_ble_eq_true rfl) rfl rfl (Nat.le_of_ble_eq_true rfl) rfl h
      · replace h := h.2 c
        refine e_load q_157 rfl rfl rfl ?_
        refine e_load q_157 rfl rfl rfl ?_
        refine e_push q_157 rfl ?_
        refine e_virt q_157 rfl rfl (Nat.le_of_ble_eq_true rfl) rfl rfl (Nat.le_of_ble_eq_true rfl) rfl ?_
        show Ev S (d + 3) 122 0 [some (.inr (some 60)), some (.inl (σ 67 j1)), some (.inl 7)] [] (up (up σ 61 j2 0) 61 j5 (((up σ 61 j2 0) 61 j4) + 1)) _
        refine e_load q_122 rfl rfl rfl ?_
        refine e_getR q_122 rfl rfl rfl ?_
        refine e_push q_122 rfl ?_
        refine e_push q_122 rfl ?_
        refine e_load q_122 rfl rfl rfl ?_
        refine e_bin (r := 9 * (σ 67 j1)) q_122 rfl rfl ?_
        refine e_bin (r := 1 + (9 * (σ 67 j1))) q_122 rfl rfl ?_
        refine e_load q_122 rfl rfl rfl ?_
        refine e_bin (r := (1 + (9 * (σ 67 j1))) + 7) q_122 rfl rfl ?_
        obtain ⟨j7, hjj7, hlj7, h⟩ := h
        refine e_iald q_122 rfl rfl (by decide) hjj7 hlj7 ?_
        refine e_ireturn q_122 rfl rfl ?_
        show Ev S (d + 4) 157 10 [some (.inr (some 60)), some (.inl (σ 67 j1))] [.inl ((up (up σ 61 j2 0) 61 j5 (((up σ 61 j2 0) 61 j4) + 1)) 61 j7)] (up (up σ 61 j2 0) 61 j5 (((up σ 61 j2 0) 61 j4) + 1)) _
        refine e_push q_157 rfl ?_
        refine e_icmp (P := 6 ≤ ((up (up σ 61 j2 0) 61 j5 (((up σ 61 j2 0) 61 j4) + 1)) 61 j7)) q_157 rfl m_c3 (fun c => ?_) (fun c => ?_)
        · replace h := h.1 c
          refine e_push q_157 rfl ?_
          refine e_zreturn q_157 rfl rfl (by decide) ?_
          show Ev S (d + 5) 159 15 [some (.inr (some 60)), some (.inl (σ 67 j1))] [.inl 0] (up (up σ 61 j2 0) 61 j5 (((up σ 61 j2 0) 61 j4) + 1)) _
          refine e_if (P := ¬ (0 : Int32) = 0) q_159 rfl m_c1 (fun c => absurd c (by decide)) (fun _ => ?_)
          refine e_load q_159 rfl rfl rfl ?_
          refine e_load q_159 rfl rfl rfl ?_
          exact e_virt q_159 rfl rfl (Nat.le_of_ble_eq_true rfl) rfl rfl (Nat.le_of_ble_eq_true rfl) rfl h
        · replace h := h.2 c
          refine e_load q_157 rfl rfl rfl ?_
          refine e_push q_157 rfl ?_
          refine e_load q_157 rfl rfl rfl ?_
          exact e_virt q_157 rfl rfl (Nat.le_of_ble_eq_true rfl) rfl rfl (Nat.le_of_ble_eq_true rfl) rfl h
    · replace h := h.2 c
      refine e_push q_156 rfl ?_
      refine e_goto q_156 rfl ?_
      refine e_ireturn q_156 rfl rfl ?_
      show Ev S (d + 5) 159 11 [some (.inr (some 60)), some (.inl (σ 67 j1))] [.inl (-1), .inl 7, .inl (σ 67 j1), .inr (some 60)] (up σ 61 j2 0) _
      refine e_virt q_159 rfl rfl (Nat.le_of_ble_eq_true rfl) rfl rfl (Nat.le_of_ble_eq_true rfl) rfl ?_
      show Ev S (d + 4) 123 0 [some (.inr (some 60)), some (.inl (σ 67 j1)), some (.inl 7), some (.inl (-1))] [] (up σ 61 j2 0) _
      refine e_load q_123 rfl rfl rfl ?_
      refine e_getR q_123 rfl rfl rfl ?_
      refine e_push q_123 rfl ?_
      refine e_push q_123 rfl ?_
      refine e_load q_123 rfl rfl rfl ?_
      refine e_bin (r := 9 * (σ 67 j1)) q_123 rfl rfl ?_
      refine e_bin (r := 1 + (9 * (σ 67 j1))) q_123 rfl rfl ?_
      refine e_load q_123 rfl rfl rfl ?_
      refine e_bin (r := (1 + (9 * (σ 67 j1))) + 7) q_123 rfl rfl ?_
      refine e_load q_123 rfl rfl rfl ?_
      obtain ⟨j8, hjj8, hlj8, h⟩ := h
      refine e_iast q_123 rfl rfl (by decide) hjj8 hlj8 ?_
      refine e_return q_123 rfl rfl ?_
      show Ev S (d + 5) 159 12 [some (.inr (some 60)), some (.inl (σ 67 j1))] [] (up (up σ 61 j2 0) 61 j8 (-1)) _
      refine e_load q_159 rfl rfl rfl ?_
      refine e_load q_159 rfl rfl rfl ?_
      refine e_virt q_159 rfl rfl (Nat.le_of_ble_eq_true rfl) rfl rfl (Nat.le_of_ble_eq_true rfl) rfl ?_
      show Ev S (d + 4) 157 0 [some (.inr (some 60)), some (.inl (σ 67 j1))] [] (up (up σ 61 j2 0) 61 j8 (-1)) _
      refine e_load q_157 rfl rfl rfl ?_
      refine e_load q_157 rfl rfl rfl ?_
      refine e_push q_157 rfl ?_
      refine e_virt q_157 rfl rfl (Nat.le_of_ble_eq_true rfl) rfl rfl (Nat.le_of_ble_eq_true rfl) rfl ?_
      show Ev S (d + 3) 122 0 [some (.inr (some 60)), some (.inl (σ 67 j1)), some (.inl 6)] [] (up (up σ 61 j2 0) 61 j8 (-1)) _
      refine e_load q_122 rfl rfl rfl ?_
      refine e_getR q_122 rfl rfl rfl ?_
      refine e_push q_122 rfl ?_
      refine e_push q_122 rfl ?_
      refine e_load q_122 rfl rfl rfl ?_
      refine e_bin (r := 9 * (σ 67 j1)) q_122 rfl rfl ?_
      refine e_bin (r := 1 + (9 * (σ 67 j1))) q_122 rfl rfl ?_
      refine e_load q_122 rfl rfl rfl ?_
      refine e_bin (r := (1 + (9 * (σ 67 j1))) + 6) q_122 rfl rfl ?_
      obtain ⟨j9, hjj9, hlj9, h⟩ := h
      refine e_iald q_122 rfl rfl (by decide) hjj9 hlj9 ?_
      refine e_ireturn q_122 rfl rfl ?_
      show Ev S (d + 4) 157 4 [some (.inr (some 60)), some (.inl (σ 67 j1))] [.inl ((up (up σ 61 j2 0) 61 j8 (-1)) 61 j9)] (up (up σ 61 j2 0) 61 j8 (-1)) _
      refine e_push q_157 rfl ?_
      refine e_icmp (P := 6 ≤ ((up (up σ 61 j2 0) 61 j8 (-1)) 61 j9)) q_157 rfl m_c3 (fun c => ?_) (fun c => ?_)
      · replace h := h.1 c
        refine e_push q_157 rfl ?_
        refine e_zreturn q_157 rfl rfl (by decide) ?_
        show Ev S (d + 5) 159 15 [some (.inr (some 60)), some (.inl (σ 67 j1))] [.inl 0] (up (up σ 61 j2 0) 61 j8 (-1)) _
        refine e_if (P := ¬ (0 : Int32) = 0) q_159 rfl m_c1 (fun c => absurd c (by decide)) (fun _ => ?_)
        refine e_load q_159 rfl rfl rfl ?_
        refine e_load q_159 rfl rfl rfl ?_
        exact e_virt q_159 rfl rfl (Nat.le_of_ble_eq_true rfl) rfl rfl (Nat.le_of_ble_eq_true rfl) rfl h
      · replace h := h.2 c
        refine e_load q_157 rfl rfl rfl ?_
        refine e_load q_157 rfl rfl rfl ?_
        refine e_push q_157 rfl ?_
        refine e_virt q_157 rfl rfl (Nat.le_of_ble_eq_true rfl) rfl rfl (Nat.le_of_ble_eq_true rfl) rfl ?_
        show Ev S (d + 3) 122 0 [some (.inr (some 60)), some (.inl (σ 67 j1)), some (.inl 7)] [] (up (up σ 61 j2 0) 61 j8 (-1)) _
        refine e_load q_122 rfl rfl rfl ?_
        refine e_getR q_122 rfl rfl rfl ?_
        refine e_push q_122 rfl ?_
        refine e_push q_122 rfl ?_
        refine e_load q_122 rfl rfl rfl ?_
        refine e_bin (r := 9 * (σ 67 j1)) q_122 rfl rfl ?_
        refine e_bin (r := 1 + (9 * (σ 67 j1))) q_122 rfl rfl ?_
        refine e_load q_122 rfl rfl rfl ?_
        refine e_bin (r := (1 + (9 * (σ 67 j1))) + 7) q_122 rfl rfl ?_
        obtain ⟨j10, hjj10, hlj10, h⟩ := h
        refine e_iald q_122 rfl rfl (by decide) hjj10 hlj10 ?_
        refine e_ireturn q_122 rfl rfl ?_
        show Ev S (d + 4) 157 10 [some (.inr (some 60)), some (.inl (σ 67 j1))] [.inl ((up (up σ 61 j2 0) 61 j8 (-1)) 61 j10)] (up (up σ 61 j2 0) 61 j8 (-1)) _
        refine e_push q_157 rfl ?_
        refine e_icmp (P := 6 ≤ ((up (up σ 61 j2 0) 61 j8 (-1)) 61 j10)) q_157 rfl m_c3 (fun c => ?_) (fun c => ?_)
        · replace h := h.1 c
          refine e_push q_157 rfl ?_
          refine e_zreturn q_157 rfl rfl (by decide) ?_
          show Ev S (d + 5) 159 15 [some (.inr (some 60)), some (.inl (σ 67 j1))] [.inl 0] (up (up σ 61 j2 0) 61 j8 (-1)) _
          refine e_if (P := ¬ (0 : Int32) = 0) q_159 rfl m_c1 (fun c => absurd c (by decide)) (fun _ => ?_)
          refine e_load q_159 rfl rfl rfl ?_
          refine e_load q_159 rfl rfl rfl ?_
          exact e_virt q_159 rfl rfl (Nat.le_of_ble_eq_true rfl) rfl rfl (Nat.le_of_ble_eq_true rfl) rfl h
        · replace h := h.2 c
          refine e_load q_157 rfl rfl rfl ?_
          refine e_push q_157 rfl ?_
          refine e_load q_157 rfl rfl rfl ?_
          exact e_virt q_157 rfl rfl (Nat.le_of_ble_eq_true rfl) rfl rfl (Nat.le_of_ble_eq_true rfl) rfl h
theorem g_162_106 {S : Nat × (Nat → Int32)} {d : Nat} {σ : Mem} {Q : MQ1} {x1 : Int32} {o2 : Option MV} {x3 : Int32} {o4 : Option MV} {y0 : Int32}  (h : Ev S (d + 6) 162 91 [some (.inr (some 60)), some (.inl x1), o2, some (.inl (x3 + (-1))), some (.inl y0)] [] σ Q) : Ev S (d + 6) 162 106 [some (.inr (some 60)), some (.inl x1), o2, some (.inl x3), o4] [.inl y0] σ Q := by
  refine e_store (ls' := [some (.inr (some 60)), some (.inl x1), o2, some (.inl x3), some (.inl y0)]) q_162 rfl (Nat.le_of_ble_eq_true rfl) rfl rfl ?_
  refine e_iinc (ls' := [some (.inr (some 60)), some (.inl x1), o2, some (.inl (x3 + (-1))), some (.inl y0)]) q_162 rfl rfl rfl ?_
  refine e_goto q_162 rfl ?_
  exact h
theorem g_163_0 {S : Nat × (Nat → Int32)} {d : Nat} {σ : Mem} {Q : MQ1} {p1 : Nat} (hp1 : m_sh[p1]? = some (.inr (.inl 16))) (h : Ev S (d + 1) 163 2 [some (.inr (some 60)), some (.inr (some p1)), some (.inl 0)] [] σ Q) : Ev S (d + 1) 163 0 [some (.inr (some 60)), some (.inr (some p1)), none] [] σ Q := by
  refine e_push q_163 rfl ?_
  refine e_store (ls' := [some (.inr (some 60)), some (.inr (some p1)), some (.inl 0)]) q_163 rfl (Nat.le_of_ble_eq_true rfl) rfl rfl ?_
  exact h
theorem g_163_2 {S : Nat × (Nat → Int32)} {d : Nat} {σ : Mem} {Q : MQ1} {p1 : Nat} {x2 : Int32} (hp1 : m_sh[p1]? = some (.inr (.inl 16))) (h : (((σ 60 9) ≤ x2 → Q [] σ) ∧ (¬ ((σ 60 9) ≤ x2) → (∃ j1 : Nat, x2 = nI j1 ∧ j1 < 8 ∧ (∃ j2 : Nat, 2 * x2 = nI j2 ∧ j2 < 16 ∧ (∃ j3 : Nat, (1 + (9 * (σ 67 j1))) + 6 = nI j3 ∧ j3 < 86 ∧ (∃ j4 : Nat, x2 = nI j4 ∧ j4 < 8 ∧ (∃ j5 : Nat, (2 * x2) + 1 = nI j5 ∧ j5 < 16 ∧ (∃ j6 : Nat, (1 + (9 * ((up σ 61 j3 (σ p1 j2)) 67 j4))) + 7 = nI j6 ∧ j6 < 86 ∧ Ev S (d + 1) 163 2 [some (.inr (some 60)), some (.inr (some p1)), some (.inl (x2 + 1))] [] (up (up σ 61 j3 (σ p1 j2)) 61 j6 ((up σ 61 j3 (σ p1 j2)) p1 j5)) Q))))))))) : Ev S (d + 1) 163 2 [some (.inr (some 60)), some (.inr (some p1)), some (.inl x2)] [] σ Q := by
  refine e_load q_163 rfl rfl rfl ?_
  refine e_load q_163 rfl rfl rfl ?_
  refine e_getI q_163 rfl rfl rfl ?_
  refine e_icmp (P := (σ 60 9) ≤ x2) q_163 rfl m_c3 (fun c => ?_) (fun c => ?_)
  · replace h := h.1 c
    exact e_return q_163 rfl rfl h
  · replace h := h.2 c
    refine e_load q_163 rfl rfl rfl ?_
    refine e_load q_163 rfl rfl rfl ?_
    refine e_getR q_163 rfl rfl rfl ?_
    refine e_load q_163 rfl rfl rfl ?_
    obtain ⟨j1, hjj1, hlj1, h⟩ := h
    refine e_iald q_163 rfl rfl (by decide) hjj1 hlj1 ?_
    refine e_push q_163 rfl ?_
    refine e_load q_163 rfl rfl rfl ?_
    refine e_push q_163 rfl ?_
    refine e_load q_163 rfl rfl rfl ?_
    refine e_bin (r := 2 * x2) q_163 rfl rfl ?_
    obtain ⟨j2, hjj2, hlj2, h⟩ := h
    refine e_iald q_163 rfl hp1 (by decide) hjj2 hlj2 ?_
    refine e_virt q_163 rfl rfl (Nat.le_of_ble_eq_true rfl) rfl rfl (Nat.le_of_ble_eq_true rfl) rfl ?_
    show Ev S d 123 0 [some (.inr (some 60)), some (.inl (σ 67 j1)), some (.inl 6), some (.inl (σ p1 j2))] [] σ _
    refine e_load q_123 rfl rfl rfl ?_
    refine e_getR q_123 rfl rfl rfl ?_
    refine e_push q_123 rfl ?_
    refine e_push q_123 rfl ?_
    refine e_load q_123 rfl rfl rfl ?_
    refine e_bin (r := 9 * (σ 67 j1)) q_123 rfl rfl ?_
    refine e_bin (r := 1 + (9 * (σ 67 j1))) q_123 rfl rfl ?_
    refine e_load q_123 rfl rfl rfl ?_
    refine e_bin (r := (1 + (9 * (σ 67 j1))) + 6) q_123 rfl rfl ?_
    refine e_load q_123 rfl rfl rfl ?_
    obtain ⟨j3, hjj3, hlj3, h⟩ := h
    refine e_iast q_123 rfl rfl (by decide) hjj3 hlj3 ?_
    refine e_return q_123 rfl rfl ?_
    show Ev S (d + 1) 163 18 [some (.inr (some 60)), some (.inr (some p1)), some (.inl x2)] [] (up σ 61 j3 (σ p1 j2)) _
    refine e_load q_163 rfl rfl rfl ?_
    refine e_load q_163 rfl rfl rfl ?_
    refine e_getR q_163 rfl rfl rfl ?_
    refine e_load q_163 rfl rfl rfl ?_
    obtain ⟨j4, hjj4, hlj4, h⟩ := h
    refine e_iald q_163 rfl rfl (by decide) hjj4 hlj4 ?_
    refine e_push q_163 rfl ?_
    refine e_load q_163 rfl rfl rfl ?_
    refine e_push q_163 rfl ?_
    refine e_load q_163 rfl rfl rfl ?_
    refine e_bin (r := 2 * x2) q_163 rfl rfl ?_
    refine e_push q_163 rfl ?_
    refine e_bin (r := (2 * x2) + 1) q_163 rfl rfl ?_
    obtain ⟨j5, hjj5, hlj5, h⟩ := h
    refine e_iald q_163 rfl hp1 (by decide) hjj5 hlj5 ?_
    refine e_virt q_163 rfl rfl (Nat.le_of_ble_eq_true rfl) rfl rfl (Nat.le_of_ble_eq_true rfl) rfl ?_
    show Ev S d 123 0 [some (.inr (some 60)), some (.inl ((up σ 61 j3 (σ p1 j2)) 67 j4)), some (.inl 7), some (.inl ((up σ 61 j3 (σ p1 j2)) p1 j5))] [] (up σ 61 j3 (σ p1 j2)) _
    refine e_load q_123 rfl rfl rfl ?_
    refine e_getR q_123 rfl rfl rfl ?_
    refine e_push q_123 rfl ?_
    refine e_push q_123 rfl ?_
    refine e_load q_123 rfl rfl rfl ?_
    refine e_bin (r := 9 * ((up σ 61 j3 (σ p1 j2)) 67 j4)) q_123 rfl rfl ?_
    refine e_bin (r := 1 + (9 * ((up σ 61 j3 (σ p1 j2)) 67 j4))) q_123 rfl rfl ?_
    refine e_load q_123 rfl rfl rfl ?_
    refine e_bin (r := (1 + (9 * ((up σ 61 j3 (σ p1 j2)) 67 j4))) + 7) q_123 rfl rfl ?_
    refine e_load q_123 rfl rfl rfl ?_
    obtain ⟨j6, hjj6, hlj6, h⟩ := h
    refine e_iast q_123 rfl rfl (by decide) hjj6 hlj6 ?_
    refine e_return q_123 rfl rfl ?_
    show Ev S (d + 1) 163 32 [some (.inr (some 60)), some (.inr (some p1)), some (.inl x2)] [] (up (up σ 61 j3 (σ p1 j2)) 61 j6 ((up σ 61 j3 (σ p1 j2)) p1 j5)) _
    refine e_iinc (ls' := [some (.inr (some 60)), some (.inr (some p1)), some (.inl (x2 + 1))]) q_163 rfl rfl rfl ?_
    refine e_goto q_163 rfl ?_
    exact h
theorem g_164_0 {S : Nat × (Nat → Int32)} {d : Nat} {σ : Mem} {Q : MQ1} {x1 : Int32}  (h : Ec S (d + 6) 162 [.inr (some 60), .inl 0] σ (fun rv σ' => Ev S (d + 7) 164 3 [some (.inr (some 60)), some (.inl x1)] (rv ++ []) σ' Q)) : Ev S (d + 7) 164 0 [some (.inr (some 60)), some (.inl x1)] [] σ Q := by
  refine e_load q_164 rfl rfl rfl ?_
  refine e_push q_164 rfl ?_
  exact e_virt q_164 rfl rfl (Nat.le_of_ble_eq_true rfl) rfl rfl (Nat.le_of_ble_eq_true rfl) rfl h
theorem g_164_3 {S : Nat × (Nat → Int32)} {d : Nat} {σ : Mem} {Q : MQ1} {x1 : Int32} {y0 : Int32}  (h : (((¬ y0 = 0) → (((¬ (σ 60 12) = 0) → ((x1 = 0 → Q [.inl (σ 60 14)] σ) ∧ (¬ (x1 = 0) → Ec S (d + 6) 126 [.inr (some 60)] σ (fun rv σ' => Ev S (d + 7) 164 19 [some (.inr (some 60)), some (.inl x1)] (rv ++ []) σ' Q)))) ∧ (¬ (¬ (σ 60 12) = 0) → Q [.inl (-100006)] (up σ 60 6 ((σ 60 6) + 1))))) ∧ (¬ (¬ y0 = 0) → Q [.inl (-100008)] (up σ 60 6 ((σ 60 6) + 1))))) : Ev S (d + 7) 164 3 [some (.inr (some 60)), some (.inl x1)] [.inl y0] σ Q := by
  refine e_if (P := ¬ y0 = 0) q_164 rfl m_c1 (fun c => ?_) (fun c => ?_)
  · replace h := h.1 c
    refine e_load q_164 rfl rfl rfl ?_
    refine e_getI q_164 rfl rfl rfl ?_
    refine e_if (P := ¬ (σ 60 12) = 0) q_164 rfl m_c1 (fun c => ?_) (fun c => ?_)
    · replace h := h.1 c
      refine e_load q_164 rfl rfl rfl ?_
      refine e_if (P := x1 = 0) q_164 rfl m_c0 (fun c => ?_) (fun c => ?_)
      · replace h := h.1 c
        refine e_load q_164 rfl rfl rfl ?_
        refine e_getI q_164 rfl rfl rfl ?_
        exact e_ireturn q_164 rfl rfl h
      · replace h := h.2 c
        refine e_load q_164 rfl rfl rfl ?_
        exact e_virt q_164 rfl rfl (Nat.le_of_ble_eq_true rfl) rfl rfl (Nat.le_of_ble_eq_true rfl) rfl h
    · replace h := h.2 c
      refine e_load q_164 rfl rfl rfl ?_
      refine e_push q_164 rfl ?_
      refine e_virt q_164 rfl rfl (Nat.le_of_ble_eq_true rfl) rfl rfl (Nat.le_of_ble_eq_true rfl) rfl ?_
      show Ev S (d + 6) 118 0 [some (.inr (some 60)), some (.inl (-100006))] [] σ _
      refine e_load q_118 rfl rfl rfl ?_
      refine e_dup q_118 rfl ?_
      refine e_getI q_118 rfl rfl rfl ?_
      refine e_push q_118 rfl ?_
      refine e_bin (r := (σ 60 6) + 1) q_118 rfl rfl ?_
      refine e_putI q_118 rfl rfl rfl ?_
      refine e_load q_118 rfl rfl rfl ?_
      refine e_ireturn q_118 rfl rfl ?_
      show Ev S (d + 7) 164 14 [some (.inr (some 60)), some (.inl x1)] [.inl (-100006)] (up σ 60 6 ((σ 60 6) + 1)) _
      exact e_ireturn q_164 rfl rfl h
  · replace h := h.2 c
    refine e_load q_164 rfl rfl rfl ?_
    refine e_push q_164 rfl ?_
    refine e_virt q_164 rfl rfl (Nat.le_of_ble_eq_true rfl) rfl rfl (Nat.le_of_ble_eq_true rfl) rfl ?_
    show Ev S (d + 6) 118 0 [some (.inr (some 60)), some (.inl (-100008))] [] σ _
    refine e_load q_118 rfl rfl rfl ?_
    refine e_dup q_118 rfl ?_
    refine e_getI q_118 rfl rfl rfl ?_
    refine e_push q_118 rfl ?_
    refine e_bin (r := (σ 60 6) + 1) q_118 rfl rfl ?_
    refine e_putI q_118 rfl rfl rfl ?_
    refine e_load q_118 rfl rfl rfl ?_
    refine e_ireturn q_118 rfl rfl ?_
    show Ev S (d + 7) 164 7 [some (.inr (some 60)), some (.inl x1)] [.inl (-100008)] (up σ 60 6 ((σ 60 6) + 1)) _
    exact e_ireturn q_164 rfl rfl h
theorem g_164_19 {S : Nat × (Nat → Int32)} {d : Nat} {σ : Mem} {Q : MQ1} {o1 : Option MV}  (h : Ec S (d + 6) 163 [.inr (some 60), .inr (some 69)] σ (fun rv σ' => Ev S (d + 7) 164 23 [some (.inr (some 60)), o1] (rv ++ []) σ' Q)) : Ev S (d + 7) 164 19 [some (.inr (some 60)), o1] [] σ Q := by
  refine e_load q_164 rfl rfl rfl ?_
  refine e_load q_164 rfl rfl rfl ?_
  refine e_getR q_164 rfl rfl rfl ?_
  exact e_virt q_164 rfl rfl (Nat.le_of_ble_eq_true rfl) rfl rfl (Nat.le_of_ble_eq_true rfl) rfl h
theorem g_164_23 {S : Nat × (Nat → Int32)} {d : Nat} {σ : Mem} {Q : MQ1} {o1 : Option MV}  (h : Q [.inl (σ 60 14)] σ) : Ev S (d + 7) 164 23 [some (.inr (some 60)), o1] [] σ Q := by
  refine e_load q_164 rfl rfl rfl ?_
  refine e_getI q_164 rfl rfl rfl ?_
  exact e_ireturn q_164 rfl rfl h
theorem g_165_0 {S : Nat × (Nat → Int32)} {d : Nat} {σ : Mem} {Q : MQ1}   (h : Ec S (d + 6) 162 [.inr (some 60), .inl 0] σ (fun rv σ' => Ev S (d + 7) 165 3 [some (.inr (some 60))] (rv ++ []) σ' Q)) : Ev S (d + 7) 165 0 [some (.inr (some 60))] [] σ Q := by
  refine e_load q_165 rfl rfl rfl ?_
  refine e_push q_165 rfl ?_
  exact e_virt q_165 rfl rfl (Nat.le_of_ble_eq_true rfl) rfl rfl (Nat.le_of_ble_eq_true rfl) rfl h
theorem g_165_3 {S : Nat × (Nat → Int32)} {d : Nat} {σ : Mem} {Q : MQ1} {y0 : Int32}  (h : ((y0 = 0 → Q [.inl (-100008)] (up σ 60 6 ((σ 60 6) + 1))) ∧ (¬ (y0 = 0) → Q [.inl (σ 60 12)] σ))) : Ev S (d + 7) 165 3 [some (.inr (some 60))] [.inl y0] σ Q := by
  refine e_if (P := y0 = 0) q_165 rfl m_c0 (fun c => ?_) (fun c => ?_)
  · replace h := h.1 c
    refine e_load q_165 rfl rfl rfl ?_
    refine e_push q_165 rfl ?_
    refine e_virt q_165 rfl rfl (Nat.le_of_ble_eq_true rfl) rfl rfl (Nat.le_of_ble_eq_true rfl) rfl ?_
    show Ev S (d + 6) 118 0 [some (.inr (some 60)), some (.inl (-100008))] [] σ _
    refine e_load q_118 rfl rfl rfl ?_
    refine e_dup q_118 rfl ?_
    refine e_getI q_118 rfl rfl rfl ?_
    refine e_push q_118 rfl ?_
    refine e_bin (r := (σ 60 6) + 1) q_118 rfl rfl ?_
    refine e_putI q_118 rfl rfl rfl ?_
    refine e_load q_118 rfl rfl rfl ?_
    refine e_ireturn q_118 rfl rfl ?_
    show Ev S (d + 7) 165 10 [some (.inr (some 60))] [.inl (-100008)] (up σ 60 6 ((σ 60 6) + 1)) _
    exact e_ireturn q_165 rfl rfl h
  · replace h := h.2 c
    refine e_load q_165 rfl rfl rfl ?_
    refine e_getI q_165 rfl rfl rfl ?_
    refine e_goto q_165 rfl ?_
    exact e_ireturn q_165 rfl rfl h
theorem g_166_0 {S : Nat × (Nat → Int32)} {d : Nat} {σ : Mem} {Q : MQ1} {x1 : Int32}  (h : Ec S (d + 6) 162 [.inr (some 60), .inl 1] σ (fun rv σ' => Ev S (d + 7) 166 3 [some (.inr (some 60)), some (.inl x1)] (rv ++ []) σ' Q)) : Ev S (d + 7) 166 0 [some (.inr (some 60)), some (.inl x1)] [] σ Q := by
  refine e_load q_166 rfl rfl rfl ?_
  refine e_push q_166 rfl ?_
  exact e_virt q_166 rfl rfl (Nat.le_of_ble_eq_true rfl) rfl rfl (Nat.le_of_ble_eq_true rfl) rfl h
theorem g_166_3 {S : Nat × (Nat → Int32)} {d : Nat} {σ : Mem} {Q : MQ1} {x1 : Int32} {y0 : Int32}  (h : (((¬ y0 = 0) → (((¬ (σ 60 12) = 0) → ((x1 = 0 → Q [.inl (σ 60 13)] σ) ∧ (¬ (x1 = 0) → Ec S (d + 6) 126 [.inr (some 60)] σ (fun rv σ' => Ev S (d + 7) 166 19 [some (.inr (some 60)), some (.inl x1)] (rv ++ []) σ' Q)))) ∧ (¬ (¬ (σ 60 12) = 0) → Q [.inl (-100006)] (up σ 60 6 ((σ 60 6) + 1))))) ∧ (¬ (¬ y0 = 0) → Q [.inl (-100008)] (up σ 60 6 ((σ 60 6) + 1))))) : Ev S (d + 7) 166 3 [some (.inr (some 60)), some (.inl x1)] [.inl y0] σ Q := by
  refine e_if (P := ¬ y0 = 0) q_166 rfl m_c1 (fun c => ?_) (fun c => ?_)
  · replace h := h.1 c
    refine e_load q_166 rfl rfl rfl ?_
    refine e_getI q_166 rfl rfl rfl ?_
    refine e_if (P := ¬ (σ 60 12) = 0) q_166 rfl m_c1 (fun c => ?_) (fun c => ?_)
    · replace h := h.1 c
      refine e_load q_166 rfl rfl rfl ?_
      refine e_if (P := x1 = 0) q_166 rfl m_c0 (fun c => ?_) (fun c => ?_)
      · replace h := h.1 c
        refine e_load q_166 rfl rfl rfl ?_
        refine e_getI q_166 rfl rfl rfl ?_
        exact e_ireturn q_166 rfl rfl h
      · replace h := h.2 c
        refine e_load q_166 rfl rfl rfl ?_
        exact e_virt q_166 rfl rfl (Nat.le_of_ble_eq_true rfl) rfl rfl (Nat.le_of_ble_eq_true rfl) rfl h
    · replace h := h.2 c
      refine e_load q_166 rfl rfl rfl ?_
      refine e_push q_166 rfl ?_
      refine e_virt q_166 rfl rfl (Nat.le_of_ble_eq_true rfl) rfl rfl (Nat.le_of_ble_eq_true rfl) rfl ?_
      show Ev S (d + 6) 118 0 [some (.inr (some 60)), some (.inl (-100006))] [] σ _
      refine e_load q_118 rfl rfl rfl ?_
      refine e_dup q_118 rfl ?_
      refine e_getI q_118 rfl rfl rfl ?_
      refine e_push q_118 rfl ?_
      refine e_bin (r := (σ 60 6) + 1) q_118 rfl rfl ?_
      refine e_putI q_118 rfl rfl rfl ?_
      refine e_load q_118 rfl rfl rfl ?_
      refine e_ireturn q_118 rfl rfl ?_
      show Ev S (d + 7) 166 14 [some (.inr (some 60)), some (.inl x1)] [.inl (-100006)] (up σ 60 6 ((σ 60 6) + 1)) _
      exact e_ireturn q_166 rfl rfl h
  · replace h := h.2 c
    refine e_load q_166 rfl rfl rfl ?_
    refine e_push q_166 rfl ?_
    refine e_virt q_166 rfl rfl (Nat.le_of_ble_eq_true rfl) rfl rfl (Nat.le_of_ble_eq_true rfl) rfl ?_
    show Ev S (d + 6) 118 0 [some (.inr (some 60)), some (.inl (-100008))] [] σ _
    refine e_load q_118 rfl rfl rfl ?_
    refine e_dup q_118 rfl ?_
    refine e_getI q_118 rfl rfl rfl ?_
    refine e_push q_118 rfl ?_
    refine e_bin (r := (σ 60 6) + 1) q_118 rfl rfl ?_
    refine e_putI q_118 rfl rfl rfl ?_
    refine e_load q_118 rfl rfl rfl ?_
    refine e_ireturn q_118 rfl rfl ?_
    show Ev S (d + 7) 166 7 [some (.inr (some 60)), some (.inl x1)] [.inl (-100008)] (up σ 60 6 ((σ 60 6) + 1)) _
    exact e_ireturn q_166 rfl rfl h
theorem g_166_19 {S : Nat × (Nat → Int32)} {d : Nat} {σ : Mem} {Q : MQ1} {o1 : Option MV}  (h : Ec S (d + 6) 163 [.inr (some 60), .inr (some 69)] σ (fun rv σ' => Ev S (d + 7) 166 23 [some (.inr (some 60)), o1] (rv ++ []) σ' Q)) : Ev S (d + 7) 166 19 [some (.inr (some 60)), o1] [] σ Q := by
  refine e_load q_166 rfl rfl rfl ?_
  refine e_load q_166 rfl rfl rfl ?_
  refine e_getR q_166 rfl rfl rfl ?_
  exact e_virt q_166 rfl rfl (Nat.le_of_ble_eq_true rfl) rfl rfl (Nat.le_of_ble_eq_true rfl) rfl h
theorem g_166_23 {S : Nat × (Nat → Int32)} {d : Nat} {σ : Mem} {Q : MQ1} {o1 : Option MV}  (h : Q [.inl (σ 60 13)] σ) : Ev S (d + 7) 166 23 [some (.inr (some 60)), o1] [] σ Q := by
  refine e_load q_166 rfl rfl rfl ?_
  refine e_getI q_166 rfl rfl rfl ?_
  exact e_ireturn q_166 rfl rfl h
theorem g_167_0 {S : Nat × (Nat → Int32)} {d : Nat} {σ : Mem} {Q : MQ1} {x1 : Int32} {x2 : Int32}  (h : ((x1 < 0 → Q [.inl (-100001)] (up σ 60 6 ((σ 60 6) + 1))) ∧ (¬ (x1 < 0) → ((5 < x1 → Q [.inl (-100001)] (up σ 60 6 ((σ 60 6) + 1))) ∧ (¬ (5 < x1) → Ev S (d + 2) 167 11 [some (.inr (some 60)), some (.inl x1), some (.inl x2), some (.inl 0), some (.inl 0), none, none] [] σ Q))))) : Ev S (d + 2) 167 0 [some (.inr (some 60)), some (.inl x1), some (.inl x2), none, none, none, none] [] σ Q := by
  refine e_load q_167 rfl rfl rfl ?_
  refine e_stat q_167 rfl (Nat.le_of_ble_eq_true rfl) rfl rfl (Nat.le_of_ble_eq_true rfl) ?_
  show Ev S (d + 1) 121 0 [some (.inl x1)] [] σ _
  refine e_load q_121 rfl rfl rfl ?_
  refine e_push q_121 rfl ?_
  refine e_push q_121 rfl ?_
  refine e_stat q_121 rfl (Nat.le_of_ble_eq_true rfl) rfl rfl (Nat.le_of_ble_eq_true rfl) ?_
  show Ev S d 119 0 [some (.inl x1), some (.inl 0), some (.inl 5)] [] σ _
  refine e_load q_119 rfl rfl rfl ?_
  refine e_load q_119 rfl rfl rfl ?_
  refine e_icmp (P := x1 < 0) q_119 rfl m_c2 (fun c => ?_) (fun c => ?_)
  · replace h := h.1 c
    refine e_push q_119 rfl ?_
    refine e_zreturn q_119 rfl rfl (by decide) ?_
    show Ev S (d + 1) 121 4 [some (.inl x1)] [.inl 0] σ _
    refine e_zreturn q_121 rfl rfl (by decide) ?_
    show Ev S (d + 2) 167 2 [some (.inr (some 60)), some (.inl x1), some (.inl x2), none, none, none, none] [.inl 0] σ _
    refine e_if (P := ¬ (0 : Int32) = 0) q_167 rfl m_c1 (fun c => absurd c (by decide)) (fun _ => ?_)
    refine e_load q_167 rfl rfl rfl ?_
    refine e_push q_167 rfl ?_
    refine e_virt q_167 rfl rfl (Nat.le_of_ble_eq_true rfl) rfl rfl (Nat.le_of_ble_eq_true rfl) rfl ?_
    show Ev S (d + 1) 118 0 [some (.inr (some 60)), some (.inl (-100001))] [] σ _
    refine e_load q_118 rfl rfl rfl ?_
    refine e_dup q_118 rfl ?_
    refine e_getI q_118 rfl rfl rfl ?_
    refine e_push q_118 rfl ?_
    refine e_bin (r := (σ 60 6) + 1) q_118 rfl rfl ?_
    refine e_putI q_118 rfl rfl rfl ?_
    refine e_load q_118 rfl rfl rfl ?_
    refine e_ireturn q_118 rfl rfl ?_
    show Ev S (d + 2) 167 6 [some (.inr (some 60)), some (.inl x1), some (.inl x2), none, none, none, none] [.inl (-100001)] (up σ 60 6 ((σ 60 6) + 1)) _
    exact e_ireturn q_167 rfl rfl h
  · replace h := h.2 c
    refine e_load q_119 rfl rfl rfl ?_
    refine e_load q_119 rfl rfl rfl ?_
    refine e_icmp (P := 5 < x1) q_119 rfl m_c4 (fun c => ?_) (fun c => ?_)
    · replace h := h.1 c
      refine e_push q_119 rfl ?_
      refine e_zreturn q_119 rfl rfl (by decide) ?_
      show Ev S (d + 1) 121 4 [some (.inl x1)] [.inl 0] σ _
      refine e_zreturn q_121 rfl rfl (by decide) ?_
      show Ev S (d + 2) 167 2 [some (.inr (some 60)), some (.inl x1), some (.inl x2), none, none, none, none] [.inl 0] σ _
      refine e_if (P := ¬ (0 : Int32) = 0) q_167 rfl m_c1 (fun c => absurd c (by decide)) (fun _ => ?_)
      refine e_load q_167 rfl rfl rfl ?_
      refine e_push q_167 rfl ?_
      refine e_virt q_167 rfl rfl (Nat.le_of_ble_eq_true rfl) rfl rfl (Nat.le_of_ble_eq_true rfl) rfl ?_
      show Ev S (d + 1) 118 0 [some (.inr (some 60)), some (.inl (-100001))] [] σ _
      refine e_load q_118 rfl rfl rfl ?_
      refine e_dup q_118 rfl ?_
      refine e_getI q_118 rfl rfl rfl ?_
      refine e_push q_118 rfl ?_
      refine e_bin (r := (σ 60 6) + 1) q_118 rfl rfl ?_
      refine e_putI q_118 rfl rfl rfl ?_
      refine e_load q_118 rfl rfl rfl ?_
      refine e_ireturn q_118 rfl rfl ?_
      show Ev S (d + 2) 167 6 [some (.inr (some 60)), some (.inl x1), some (.inl x2), none, none, none, none] [.inl (-100001)] (up σ 60 6 ((σ 60 6) + 1)) _
      exact e_ireturn q_167 rfl rfl h
    · replace h := h.2 c
      refine e_push q_119 rfl ?_
      refine e_goto q_119 rfl ?_
      refine e_zreturn q_119 rfl rfl (by decide) ?_
      show Ev S (d + 1) 121 4 [some (.inl x1)] [.inl 1] σ _
      refine e_zreturn q_121 rfl rfl (by decide) ?_
      show Ev S (d + 2) 167 2 [some (.inr (some 60)), some (.inl x1), some (.inl x2), none, none, none, none] [.inl 1] σ _
      refine e_if (P := ¬ (1 : Int32) = 0) q_167 rfl m_c1 (fun _ => ?_) (fun c => absurd (by decide) c)
      refine e_push q_167 rfl ?_
      refine e_store (ls' := [some (.inr (some 60)), some (.inl x1), some (.inl x2), some (.inl 0), none, none, none]) q_167 rfl (Nat.le_of_ble_eq_true rfl) rfl rfl ?_
      refine e_push q_167 rfl ?_
      refine e_store (ls' := [some (.inr (some 60)), some (.inl x1), some (.inl x2), some (.inl 0), some (.inl 0), none, none]) q_167 rfl (Nat.le_of_ble_eq_true rfl) rfl rfl ?_
      exact h
theorem g_167_11 {S : Nat × (Nat → Int32)} {d : Nat} {σ : Mem} {Q : MQ1} {x1 : Int32} {x2 : Int32} {x3 : Int32} {x4 : Int32} {o5 : Option MV} {o6 : Option MV}  (h : (((σ 61 0) ≤ x4 → Ev S (d + 2) 167 39 [some (.inr (some 60)), some (.inl x1), some (.inl x2), some (.inl x3), some (.inl 0), some (.inl 0), some (.inl 0)] [] σ Q) ∧ (¬ ((σ 61 0) ≤ x4) → (∃ j2 : Nat, (1 + (9 * x4)) + 6 = nI j2 ∧ j2 < 86 ∧ (((σ 61 j2) < x1 → Ev S (d + 2) 167 11 [some (.inr (some 60)), some (.inl x1), some (.inl x2), some (.inl (x3 ||| 0)), some (.inl (x4 + 1)), o5, o6] [] σ Q) ∧ (¬ ((σ 61 j2) < x1) → Ec S (d + 1) 130 [.inr (some 60), .inl x4] σ (fun rv σ' => Ev S (d + 2) 167 27 [some (.inr (some 60)), some (.inl x1), some (.inl x2), some (.inl x3), some (.inl x4), o5, o6] (rv ++ [.inl x3]) σ' Q))))))) : Ev S (d + 2) 167 11 [some (.inr (some 60)), some (.inl x1), some (.inl x2), some (.inl x3), some (.inl x4), o5, o6] [] σ Q := by
  refine e_load q_167 rfl rfl rfl ?_
  refine e_load q_167 rfl rfl rfl ?_
  refine e_getR q_167 rfl rfl rfl ?_
  refine e_push q_167 rfl ?_
  refine e_iald (j := 0) q_167 rfl rfl (by decide) (by decide +kernel) (by decide) ?_
  refine e_icmp (P := (σ 61 0) ≤ x4) q_167 rfl m_c3 (fun c => ?_) (fun c => ?_)
  · replace h := h.1 c
    refine e_push q_167 rfl ?_
    refine e_store (ls' := [some (.inr (some 60)), some (.inl x1), some (.inl x2), some (.inl x3), some (.inl 0), o5, o6]) q_167 rfl (Nat.le_of_ble_eq_true rfl) rfl rfl ?_
    refine e_push q_167 rfl ?_
    refine e_store (ls' := [some (.inr (some 60)), some (.inl x1), some (.inl x2), some (.inl x3), some (.inl 0), some (.inl 0), o6]) q_167 rfl (Nat.le_of_ble_eq_true rfl) rfl rfl ?_
    refine e_push q_167 rfl ?_
    refine e_store (ls' := [some (.inr (some 60)), some (.inl x1), some (.inl x2), some (.inl x3), some (.inl 0), some (.inl 0), some (.inl 0)]) q_167 rfl (Nat.le_of_ble_eq_true rfl) rfl rfl ?_
    exact h
  · replace h := h.2 c
    refine e_load q_167 rfl rfl rfl ?_
    refine e_load q_167 rfl rfl rfl ?_
    refine e_load q_167 rfl rfl rfl ?_
    refine e_push q_167 rfl ?_
    refine e_virt q_167 rfl rfl (Nat.le_of_ble_eq_true rfl) rfl rfl (Nat.le_of_ble_eq_true rfl) rfl ?_
    show Ev S (d + 1) 122 0 [some (.inr (some 60)), some (.inl x4), some (.inl 6)] [] σ _
    refine e_load q_122 rfl rfl rfl ?_
    refine e_getR q_122 rfl rfl rfl ?_
    refine e_push q_122 rfl ?_
    refine e_push q_122 rfl ?_
    refine e_load q_122 rfl rfl rfl ?_
    refine e_bin (r := 9 * x4) q_122 rfl rfl ?_
    refine e_bin (r := 1 + (9 * x4)) q_122 rfl rfl ?_
    refine e_load q_122 rfl rfl rfl ?_
    refine e_bin (r := (1 + (9 * x4)) + 6) q_122 rfl rfl ?_
    obtain ⟨j2, hjj2, hlj2, h⟩ := h
    refine e_iald q_122 rfl rfl (by decide) hjj2 hlj2 ?_
    refine e_ireturn q_122 rfl rfl ?_
    show Ev S (d + 2) 167 22 [some (.inr (some 60)), some (.inl x1), some (.inl x2), some (.inl x3), some (.inl x4), o5, o6] [.inl (σ 61 j2), .inl x3] σ _
    refine e_load q_167 rfl rfl rfl ?_
    refine e_icmp (P := (σ 61 j2) < x1) q_167 rfl m_c2 (fun c => ?_) (fun c => ?_)
    · replace h := h.1 c
      refine e_push q_167 rfl ?_
      refine e_bin (r := x3 ||| 0) q_167 rfl rfl ?_
      refine e_store (ls' := [some (.inr (some 60)), some (.inl x1), some (.inl x2), some (.inl (x3 ||| 0)), some (.inl x4), o5, o6]) q_167 rfl (Nat.le_of_ble_eq_true rfl) rfl rfl ?_
      refine e_iinc (ls' := [some (.inr (some 60)), some (.inl x1), some (.inl x2), some (.inl (x3 ||| 0)), some (.inl (x4 + 1)), o5, o6]) q_167 rfl rfl rfl ?_
      refine e_goto q_167 rfl ?_
      exact h
    · replace h := h.2 c
      refine e_load q_167 rfl rfl rfl ?_
      refine e_load q_167 rfl rfl rfl ?_
      exact e_virt q_167 rfl rfl (Nat.le_of_ble_eq_true rfl) rfl rfl (Nat.le_of_ble_eq_true rfl) rfl h
theorem g_167_39 {S : Nat × (Nat → Int32)} {d : Nat} {σ : Mem} {Q : MQ1} {x1 : Int32} {x2 : Int32} {x3 : Int32} {x4 : Int32} {x5 : Int32} {x6 : Int32}  (h : (((σ 61 0) ≤ x6 → ((x2 = 0 → Q [.inl x4] σ) ∧ (¬ (x2 = 0) → Q [.inl x5] σ))) ∧ (¬ ((σ 61 0) ≤ x6) → (((¬ ((x3 >>> (x6 &&& 31)) &&& 1) = 1) → Ev S (d + 2) 167 39 [some (.inr (some 60)), some (.inl x1), some (.inl x2), some (.inl x3), some (.inl x4), some (.inl x5), some (.inl (x6 + 1))] [] σ Q) ∧ (¬ (¬ ((x3 >>> (x6 &&& 31)) &&& 1) = 1) → (∃ j2 : Nat, (1 + (9 * x6)) + 6 = nI j2 ∧ j2 < 86 ∧ (((σ 61 j2) < 0 → Ev S (d + 2) 167 39 [some (.inr (some 60)), some (.inl x1), some (.inl x2), some (.inl x3), some (.inl x4), some (.inl x5), some (.inl (x6 + 1))] [] σ Q) ∧ (¬ ((σ 61 j2) < 0) → (∃ j3 : Nat, (1 + (9 * x6)) + 6 = nI j3 ∧ j3 < 86 ∧ ((x1 ≤ (σ 61 j3) → Ev S (d + 2) 167 39 [some (.inr (some 60)), some (.inl x1), some (.inl x2), some (.inl x3), some (.inl x4), some (.inl x5), some (.inl (x6 + 1))] [] σ Q) ∧ (¬ (x1 ≤ (σ 61 j3)) → (∃ j4 : Nat, (1 + (9 * x6)) + 1 = nI j4 ∧ j4 < 86 ∧ Ev S (d + 2) 167 39 [some (.inr (some 60)), some (.inl x1), some (.inl x2), some (.inl x3), some (.inl (x4 ||| (1 <<< (x6 &&& 31)))), some (.inl (x5 + (σ 61 j4))), some (.inl (x6 + 1))] [] σ Q)))))))))))) : Ev S (d + 2) 167 39 [some (.inr (some 60)), some (.inl x1), some (.inl x2), some (.inl x3), some (.inl x4), some (.inl x5), some (.inl x6)] [] σ Q := by
  refine e_load q_167 rfl rfl rfl ?_
  refine e_load q_167 rfl rfl rfl ?_
  refine e_getR q_167 rfl rfl rfl ?_
  refine e_push q_167 rfl ?_
  refine e_iald (j := 0) q_167 rfl rfl (by decide) (by decide +kernel) (by decide) ?_
  refine e_icmp (P := (σ 61 0) ≤ x6) q_167 rfl m_c3 (fun c => ?_) (fun c => ?_)
  · replace h := h.1 c
    refine e_load q_167 rfl rfl rfl ?_
    refine e_if (P := x2 = 0) q_167 rfl m_c0 (fun c => ?_) (fun c => ?_)
    · replace h := h.1 c
      refine e_load q_167 rfl rfl rfl ?_
      exact e_ireturn q_167 rfl rfl h
    · replace h := h.2 c
      refine e_load q_167 rfl rfl rfl ?_
      refine e_goto q_167 rfl ?_
      exact e_ireturn q_167 rfl rfl h
  · replace h := h.2 c
    refine e_load q_167 rfl rfl rfl ?_
    refine e_load q_167 rfl rfl rfl ?_
    refine e_bin (r := x3 >>> (x6 &&& 31)) q_167 rfl rfl ?_
    refine e_push q_167 rfl ?_
    refine e_bin (r := (x3 >>> (x6 &&& 31)) &&& 1) q_167 rfl rfl ?_
    refine e_push q_167 rfl ?_
    refine e_icmp (P := ¬ ((x3 >>> (x6 &&& 31)) &&& 1) = 1) q_167 rfl m_c1 (fun c => ?_) (fun c => ?_)
    · replace h := h.1 c
      refine e_iinc (ls' := [some (.inr (some 60)), some (.inl x1), some (.inl x2), some (.inl x3), some (.inl x4), some (.inl x5), some (.inl (x6 + 1))]) q_167 rfl rfl rfl ?_
      refine e_goto q_167 rfl ?_
      exact h
    · replace h := h.2 c
      refine e_load q_167 rfl rfl rfl ?_
      refine e_load q_167 rfl rfl rfl ?_
      refine e_push q_167 rfl ?_
      refine e_virt q_167 rfl rfl (Nat.le_of_ble_eq_true rfl) rfl rfl (Nat.le_of_ble_eq_true rfl) rfl ?_
      show Ev S (d + 1) 122 0 [some (.inr (some 60)), some (.inl x6), some (.inl 6)] [] σ _
      refine e_load q_122 rfl rfl rfl ?_
      refine e_getR q_122 rfl rfl rfl ?_
      refine e_push q_122 rfl ?_
      refine e_push q_122 rfl ?_
      refine e_load q_122 rfl rfl rfl ?_
      refine e_bin (r := 9 * x6) q_122 rfl rfl ?_
      refine e_bin (r := 1 + (9 * x6)) q_122 rfl rfl ?_
      refine e_load q_122 rfl rfl rfl ?_
      refine e_bin (r := (1 + (9 * x6)) + 6) q_122 rfl rfl ?_
      obtain ⟨j2, hjj2, hlj2, h⟩ := h
      refine e_iald q_122 rfl rfl (by decide) hjj2 hlj2 ?_
      refine e_ireturn q_122 rfl rfl ?_
      show Ev S (d + 2) 167 56 [some (.inr (some 60)), some (.inl x1), some (.inl x2), some (.inl x3), some (.inl x4), some (.inl x5), some (.inl x6)] [.inl (σ 61 j2)] σ _
      refine e_if (P := (σ 61 j2) < 0) q_167 rfl m_c2 (fun c => ?_) (fun c => ?_)
      · replace h := h.1 c
        refine e_iinc (ls' := [some (.inr (some 60)), some (.inl x1), some (.inl x2), some (.inl x3), some (.inl x4), some (.inl x5), some (.inl (x6 + 1))]) q_167 rfl rfl rfl ?_
        refine e_goto q_167 rfl ?_
        exact h
      · replace h := h.2 c
        refine e_load q_167 rfl rfl rfl ?_
        refine e_load q_167 rfl rfl rfl ?_
        refine e_push q_167 rfl ?_
        refine e_virt q_167 rfl rfl (Nat.le_of_ble_eq_true rfl) rfl rfl (Nat.le_of_ble_eq_true rfl) rfl ?_
        show Ev S (d + 1) 122 0 [some (.inr (some 60)), some (.inl x6), some (.inl 6)] [] σ _
        refine e_load q_122 rfl rfl rfl ?_
        refine e_getR q_122 rfl rfl rfl ?_
        refine e_push q_122 rfl ?_
        refine e_push q_122 rfl ?_
        refine e_load q_122 rfl rfl rfl ?_
        refine e_bin (r := 9 * x6) q_122 rfl rfl ?_
        refine e_bin (r := 1 + (9 * x6)) q_122 rfl rfl ?_
        refine e_load q_122 rfl rfl rfl ?_
        refine e_bin (r := (1 + (9 * x6)) + 6) q_122 rfl rfl ?_
        obtain ⟨j3, hjj3, hlj3, h⟩ := h
        refine e_iald q_122 rfl rfl (by decide) hjj3 hlj3 ?_
        refine e_ireturn q_122 rfl rfl ?_
        show Ev S (d + 2) 167 61 [some (.inr (some 60)), some (.inl x1), some (.inl x2), some (.inl x3), some (.inl x4), some (.inl x5), some (.inl x6)] [.inl (σ 61 j3)] σ _
        refine e_load q_167 rfl rfl rfl ?_
        refine e_icmp (P := x1 ≤ (σ 61 j3)) q_167 rfl m_c3 (fun c => ?_) (fun c => ?_)
        · replace h := h.1 c
          refine e_iinc (ls' := [some (.inr (some 60)), some (.inl x1), some (.inl x2), some (.inl x3), some (.inl x4), some (.inl x5), some (.inl (x6 + 1))]) q_167 rfl rfl rfl ?_
          refine e_goto q_167 rfl ?_
          exact h
        · replace h := h.2 c
          refine e_load q_167 rfl rfl rfl ?_
          refine e_push q_167 rfl ?_
          refine e_load q_167 rfl rfl rfl ?_
          refine e_bin (r := 1 <<< (x6 &&& 31)) q_167 rfl rfl ?_
          refine e_bin (r := x4 ||| (1 <<< (x6 &&& 31))) q_167 rfl rfl ?_
          refine e_store (ls' := [some (.inr (some 60)), some (.inl x1), some (.inl x2), some (.inl x3), some (.inl (x4 ||| (1 <<< (x6 &&& 31)))), some (.inl x5), some (.inl x6)]) q_167 rfl (Nat.le_of_ble_eq_true rfl) rfl rfl ?_
          refine e_load q_167 rfl rfl rfl ?_
          refine e_load q_167 rfl rfl rfl ?_
          refine e_load q_167 rfl rfl rfl ?_
          refine e_push q_167 rfl ?_
          refine e_virt q_167 rfl rfl (Nat.le_of_ble_eq_true rfl) rfl rfl (Nat.le_of_ble_eq_true rfl) rfl ?_
          show Ev S (d + 1) 122 0 [some (.inr (some 60)), some (.inl x6), some (.inl 1)] [] σ _
          refine e_load q_122 rfl rfl rfl ?_
          refine e_getR q_122 rfl rfl rfl ?_
          refine e_push q_122 rfl ?_
          refine e_push q_122 rfl ?_
          refine e_load q_122 rfl rfl rfl ?_
          refine e_bin (r := 9 * x6) q_122 rfl rfl ?_
          refine e_bin (r := 1 + (9 * x6)) q_122 rfl rfl ?_
          refine e_load q_122 rfl rfl rfl ?_
          refine e_bin (r := (1 + (9 * x6)) + 1) q_122 rfl rfl ?_
          obtain ⟨j4, hjj4, hlj4, h⟩ := h
          refine e_iald q_122 rfl rfl (by decide) hjj4 hlj4 ?_
          refine e_ireturn q_122 rfl rfl ?_
          show Ev S (d + 2) 167 74 [some (.inr (some 60)), some (.inl x1), some (.inl x2), some (.inl x3), some (.inl (x4 ||| (1 <<< (x6 &&& 31)))), some (.inl x5), some (.inl x6)] [.inl (σ 61 j4), .inl x5] σ _
          refine e_bin (r := x5 + (σ 61 j4)) q_167 rfl rfl ?_
          refine e_store (ls' := [some (.inr (some 60)), some (.inl x1), some (.inl x2), some (.inl x3), some (.inl (x4 ||| (1 <<< (x6 &&& 31)))), some (.inl (x5 + (σ 61 j4))), some (.inl x6)]) q_167 rfl (Nat.le_of_ble_eq_true rfl) rfl rfl ?_
          refine e_iinc (ls' := [some (.inr (some 60)), some (.inl x1), some (.inl x2), some (.inl x3), some (.inl (x4 ||| (1 <<< (x6 &&& 31)))), some (.inl (x5 + (σ 61 j4))), some (.inl (x6 + 1))]) q_167 rfl rfl rfl ?_
          refine e_goto q_167 rfl ?_
          exact h
theorem g_167_27 {S : Nat × (Nat → Int32)} {d : Nat} {σ : Mem} {Q : MQ1} {x1 : Int32} {x2 : Int32} {o3 : Option MV} {x4 : Int32} {o5 : Option MV} {o6 : Option MV} {y0 : Int32} {y1 : Int32}  (h : Ev S (d + 2) 167 11 [some (.inr (some 60)), some (.inl x1), some (.inl x2), some (.inl (y0 ||| y1)), some (.inl (x4 + 1)), o5, o6] [] σ Q) : Ev S (d + 2) 167 27 [some (.inr (some 60)), some (.inl x1), some (.inl x2), o3, some (.inl x4), o5, o6] [.inl y1, .inl y0] σ Q := by
  refine e_goto q_167 rfl ?_
  refine e_bin (r := y0 ||| y1) q_167 rfl rfl ?_
  refine e_store (ls' := [some (.inr (some 60)), some (.inl x1), some (.inl x2), some (.inl (y0 ||| y1)), some (.inl x4), o5, o6]) q_167 rfl (Nat.le_of_ble_eq_true rfl) rfl rfl ?_
  refine e_iinc (ls' := [some (.inr (some 60)), some (.inl x1), some (.inl x2), some (.inl (y0 ||| y1)), some (.inl (x4 + 1)), o5, o6]) q_167 rfl rfl rfl ?_
  refine e_goto q_167 rfl ?_
  exact h
theorem g_169_0 {S : Nat × (Nat → Int32)} {d : Nat} {σ : Mem} {Q : MQ1} {x1 : Int32}  (h : Ev S (d + 3) 169 4 [some (.inr (some 60)), some (.inl x1), some (.inl 0), some (.inl 0)] [] σ Q) : Ev S (d + 3) 169 0 [some (.inr (some 60)), some (.inl x1), none, none] [] σ Q := by
  refine e_push q_169 rfl ?_
  refine e_store (ls' := [some (.inr (some 60)), some (.inl x1), some (.inl 0), none]) q_169 rfl (Nat.le_of_ble_eq_true rfl) rfl rfl ?_
  refine e_push q_169 rfl ?_
  refine e_store (ls' := [some (.inr (some 60)), some (.inl x1), some (.inl 0), some (.inl 0)]) q_169 rfl (Nat.le_of_ble_eq_true rfl) rfl rfl ?_
  exact h
theorem g_169_4 {S : Nat × (Nat → Int32)} {d : Nat} {σ : Mem} {Q : MQ1} {x1 : Int32} {x2 : Int32} {x3 : Int32}  (h : (((σ 61 0) ≤ x3 → ((x1 = 0 → Q [.inl x2] σ) ∧ (¬ (x1 = 0) → Q [.inl (65535 &&& (x2 ^^^ (-1)))] σ))) ∧ (¬ ((σ 61 0) ≤ x3) → (∃ j2 : Nat, (1 + (9 * x3)) + 0 = nI j2 ∧ j2 < 86 ∧ (((¬ (σ 61 j2) = 2) → (∃ j3 : Nat, (1 + (9 * x3)) + 6 = nI j3 ∧ j3 < 86 ∧ (((σ 61 j3) < 0 → Ev S (d + 3) 169 4 [some (.inr (some 60)), some (.inl x1), some (.inl (x2 ||| 0)), some (.inl (x3 + 1))] [] σ Q) ∧ (¬ ((σ 61 j3) < 0) → (∃ j4 : Nat, (1 + (9 * x3)) + 4 = nI j4 ∧ j4 < 86 ∧ Ev S (d + 3) 169 4 [some (.inr (some 60)), some (.inl x1), some (.inl (x2 ||| (σ 61 j4))), some (.inl (x3 + 1))] [] σ Q))))) ∧ (¬ (¬ (σ 61 j2) = 2) → (∃ j5 : Nat, (1 + (9 * x3)) + 4 = nI j5 ∧ j5 < 86 ∧ Ev S (d + 3) 169 4 [some (.inr (some 60)), some (.inl x1), some (.inl (x2 ||| (σ 61 j5))), some (.inl (x3 + 1))] [] σ Q))))))) : Ev S (d + 3) 169 4 [some (.inr (some 60)), some (.inl x1), some (.inl x2), some (.inl x3)] [] σ Q := by
  refine e_load q_169 rfl rfl rfl ?_
  refine e_load q_169 rfl rfl rfl ?_
  refine e_getR q_169 rfl rfl rfl ?_
  refine e_push q_169 rfl ?_
  refine e_iald (j := 0) q_169 rfl rfl (by decide) (by decide +kernel) (by decide) ?_
  refine e_icmp (P := (σ 61 0) ≤ x3) q_169 rfl m_c3 (fun c => ?_) (fun c => ?_)
  · replace h := h.1 c
    refine e_load q_169 rfl rfl rfl ?_
    refine e_if (P := x1 = 0) q_169 rfl m_c0 (fun c => ?_) (fun c => ?_)
    · replace h := h.1 c
      refine e_load q_169 rfl rfl rfl ?_
      exact e_ireturn q_169 rfl rfl h
    · replace h := h.2 c
      refine e_push q_169 rfl ?_
      refine e_load q_169 rfl rfl rfl ?_
      refine e_push q_169 rfl ?_
      refine e_bin (r := x2 ^^^ (-1)) q_169 rfl rfl ?_
      refine e_bin (r := 65535 &&& (x2 ^^^ (-1))) q_169 rfl rfl ?_
      refine e_goto q_169 rfl ?_
      exact e_ireturn q_169 rfl rfl h
  · replace h := h.2 c
    refine e_load q_169 rfl rfl rfl ?_
    refine e_load q_169 rfl rfl rfl ?_
    refine e_load q_169 rfl rfl rfl ?_
    refine e_virt q_169 rfl rfl (Nat.le_of_ble_eq_true rfl) rfl rfl (Nat.le_of_ble_eq_true rfl) rfl ?_
    show Ev S (d + 2) 168 0 [some (.inr (some 60)), some (.inl x3)] [] σ _
    refine e_load q_168 rfl rfl rfl ?_
    refine e_load q_168 rfl rfl rfl ?_
    refine e_virt q_168 rfl rfl (Nat.le_of_ble_eq_true rfl) rfl rfl (Nat.le_of_ble_eq_true rfl) rfl ?_
    show Ev S (d + 1) 124 0 [some (.inr (some 60)), some (.inl x3)] [] σ _
    refine e_load q_124 rfl rfl rfl ?_
    refine e_load q_124 rfl rfl rfl ?_
    refine e_push q_124 rfl ?_
    refine e_virt q_124 rfl rfl (Nat.le_of_ble_eq_true rfl) rfl rfl (Nat.le_of_ble_eq_true rfl) rfl ?_
    show Ev S d 122 0 [some (.inr (some 60)), some (.inl x3), some (.inl 0)] [] σ _
    refine e_load q_122 rfl rfl rfl ?_
    refine e_getR q_122 rfl rfl rfl ?_
    refine e_push q_122 rfl ?_
    refine e_push q_122 rfl ?_
    refine e_load q_122 rfl rfl rfl ?_
    refine e_bin (r := 9 * x3) q_122 rfl rfl ?_
    refine e_bin (r := 1 + (9 * x3)) q_122 rfl rfl ?_
    refine e_load q_122 rfl rfl rfl ?_
    refine e_bin (r := (1 + (9 * x3)) + 0) q_122 rfl rfl ?_
    obtain ⟨j2, hjj2, hlj2, h⟩ := h
    refine e_iald q_122 rfl rfl (by decide) hjj2 hlj2 ?_
    refine e_ireturn q_122 rfl rfl ?_
    show Ev S (d + 1) 124 4 [some (.inr (some 60)), some (.inl x3)] [.inl (σ 61 j2)] σ _
    refine e_push q_124 rfl ?_
    refine e_icmp (P := ¬ (σ 61 j2) = 2) q_124 rfl m_c1 (fun c => ?_) (fun c => ?_)
    · replace h := h.1 c
      refine e_push q_124 rfl ?_
      refine e_zreturn q_124 rfl rfl (by decide) ?_
      show Ev S (d + 2) 168 3 [some (.inr (some 60)), some (.inl x3)] [.inl 0] σ _
      refine e_if (P := ¬ (0 : Int32) = 0) q_168 rfl m_c1 (fun c => absurd c (by decide)) (fun _ => ?_)
      refine e_load q_168 rfl rfl rfl ?_
      refine e_load q_168 rfl rfl rfl ?_
      refine e_push q_168 rfl ?_
      refine e_virt q_168 rfl rfl (Nat.le_of_ble_eq_true rfl) rfl rfl (Nat.le_of_ble_eq_true rfl) rfl ?_
      show Ev S (d + 1) 122 0 [some (.inr (some 60)), some (.inl x3), some (.inl 6)] [] σ _
      refine e_load q_122 rfl rfl rfl ?_
      refine e_getR q_122 rfl rfl rfl ?_
      refine e_push q_122 rfl ?_
      refine e_push q_122 rfl ?_
      refine e_load q_122 rfl rfl rfl ?_
      refine e_bin (r := 9 * x3) q_122 rfl rfl ?_
      refine e_bin (r := 1 + (9 * x3)) q_122 rfl rfl ?_
      refine e_load q_122 rfl rfl rfl ?_
      refine e_bin (r := (1 + (9 * x3)) + 6) q_122 rfl rfl ?_
      obtain ⟨j3, hjj3, hlj3, h⟩ := h
      refine e_iald q_122 rfl rfl (by decide) hjj3 hlj3 ?_
      refine e_ireturn q_122 rfl rfl ?_
      show Ev S (d + 2) 168 8 [some (.inr (some 60)), some (.inl x3)] [.inl (σ 61 j3)] σ _
      refine e_if (P := (σ 61 j3) < 0) q_168 rfl m_c2 (fun c => ?_) (fun c => ?_)
      · replace h := h.1 c
        refine e_push q_168 rfl ?_
        refine e_zreturn q_168 rfl rfl (by decide) ?_
        show Ev S (d + 3) 169 14 [some (.inr (some 60)), some (.inl x1), some (.inl x2), some (.inl x3)] [.inl 0, .inl x2] σ _
        refine e_if (P := (0 : Int32) = 0) q_169 rfl m_c0 (fun _ => ?_) (fun c => absurd (by decide) c)
        refine e_push q_169 rfl ?_
        refine e_bin (r := x2 ||| 0) q_169 rfl rfl ?_
        refine e_store (ls' := [some (.inr (some 60)), some (.inl x1), some (.inl (x2 ||| 0)), some (.inl x3)]) q_169 rfl (Nat.le_of_ble_eq_true rfl) rfl rfl ?_
        refine e_iinc (ls' := [some (.inr (some 60)), some (.inl x1), some (.inl (x2 ||| 0)), some (.inl (x3 + 1))]) q_169 rfl rfl rfl ?_
        refine e_goto q_169 rfl ?_
        exact h
      · replace h := h.2 c
        refine e_push q_168 rfl ?_
        refine e_goto q_168 rfl ?_
        refine e_zreturn q_168 rfl rfl (by decide) ?_
        show Ev S (d + 3) 169 14 [some (.inr (some 60)), some (.inl x1), some (.inl x2), some (.inl x3)] [.inl 1, .inl x2] σ _
        refine e_if (P := (1 : Int32) = 0) q_169 rfl m_c0 (fun c => absurd c (by decide)) (fun _ => ?_)
        refine e_load q_169 rfl rfl rfl ?_
        refine e_load q_169 rfl rfl rfl ?_
        refine e_push q_169 rfl ?_
        refine e_virt q_169 rfl rfl (Nat.le_of_ble_eq_true rfl) rfl rfl (Nat.le_of_ble_eq_true rfl) rfl ?_
        show Ev S (d + 2) 122 0 [some (.inr (some 60)), some (.inl x3), some (.inl 4)] [] σ _
        refine e_load q_122 rfl rfl rfl ?_
        refine e_getR q_122 rfl rfl rfl ?_
        refine e_push q_122 rfl ?_
        refine e_push q_122 rfl ?_
        refine e_load q_122 rfl rfl rfl ?_
        refine e_bin (r := 9 * x3) q_122 rfl rfl ?_
        refine e_bin (r := 1 + (9 * x3)) q_122 rfl rfl ?_
        refine e_load q_122 rfl rfl rfl ?_
        refine e_bin (r := (1 + (9 * x3)) + 4) q_122 rfl rfl ?_
        obtain ⟨j4, hjj4, hlj4, h⟩ := h
        refine e_iald q_122 rfl rfl (by decide) hjj4 hlj4 ?_
        refine e_ireturn q_122 rfl rfl ?_
        show Ev S (d + 3) 169 19 [some (.inr (some 60)), some (.inl x1), some (.inl x2), some (.inl x3)] [.inl (σ 61 j4), .inl x2] σ _
        refine e_goto q_169 rfl ?_
        refine e_bin (r := x2 ||| (σ 61 j4)) q_169 rfl rfl ?_
        refine e_store (ls' := [some (.inr (some 60)), some (.inl x1), some (.inl (x2 ||| (σ 61 j4))), some (.inl x3)]) q_169 rfl (Nat.le_of_ble_eq_true rfl) rfl rfl ?_
        refine e_iinc (ls' := [some (.inr (some 60)), some (.inl x1), some (.inl (x2 ||| (σ 61 j4))), some (.inl (x3 + 1))]) q_169 rfl rfl rfl ?_
        refine e_goto q_169 rfl ?_
        exact h
    · replace h := h.2 c
      refine e_push q_124 rfl ?_
      refine e_goto q_124 rfl ?_
      refine e_zreturn q_124 rfl rfl (by decide) ?_
      show Ev S (d + 2) 168 3 [some (.inr (some 60)), some (.inl x3)] [.inl 1] σ _
      refine e_if (P := ¬ (1 : Int32) = 0) q_168 rfl m_c1 (fun _ => ?_) (fun c => absurd (by decide) c)
      refine e_push q_168 rfl ?_
      refine e_goto q_168 rfl ?_
      refine e_zreturn q_168 rfl rfl (by decide) ?_
      show Ev S (d + 3) 169 14 [some (.inr (some 60)), some (.inl x1), some (.inl x2), some (.inl x3)] [.inl 1, .inl x2] σ _
      refine e_if (P := (1 : Int32) = 0) q_169 rfl m_c0 (fun c => absurd c (by decide)) (fun _ => ?_)
      refine e_load q_169 rfl rfl rfl ?_
      refine e_load q_169 rfl rfl rfl ?_
      refine e_push q_169 rfl ?_
      refine e_virt q_169 rfl rfl (Nat.le_of_ble_eq_true rfl) rfl rfl (Nat.le_of_ble_eq_true rfl) rfl ?_
      show Ev S (d + 2) 122 0 [some (.inr (some 60)), some (.inl x3), some (.inl 4)] [] σ _
      refine e_load q_122 rfl rfl rfl ?_
      refine e_getR q_122 rfl rfl rfl ?_
      refine e_push q_122 rfl ?_
      refine e_push q_122 rfl ?_
      refine e_load q_122 rfl rfl rfl ?_
      refine e_bin (r := 9 * x3) q_122 rfl rfl ?_
      refine e_bin (r := 1 + (9 * x3)) q_122 rfl rfl ?_
      refine e_load q_122 rfl rfl rfl ?_
      refine e_bin (r := (1 + (9 * x3)) + 4) q_122 rfl rfl ?_
      obtain ⟨j5, hjj5, hlj5, h⟩ := h
      refine e_iald q_122 rfl rfl (by decide) hjj5 hlj5 ?_
      refine e_ireturn q_122 rfl rfl ?_
      show Ev S (d + 3) 169 19 [some (.inr (some 60)), some (.inl x1), some (.inl x2), some (.inl x3)] [.inl (σ 61 j5), .inl x2] σ _
      refine e_goto q_169 rfl ?_
      refine e_bin (r := x2 ||| (σ 61 j5)) q_169 rfl rfl ?_
      refine e_store (ls' := [some (.inr (some 60)), some (.inl x1), some (.inl (x2 ||| (σ 61 j5))), some (.inl x3)]) q_169 rfl (Nat.le_of_ble_eq_true rfl) rfl rfl ?_
      refine e_iinc (ls' := [some (.inr (some 60)), some (.inl x1), some (.inl (x2 ||| (σ 61 j5))), some (.inl (x3 + 1))]) q_169 rfl rfl rfl ?_
      refine e_goto q_169 rfl ?_
      exact h
theorem g_170_0 {S : Nat × (Nat → Int32)} {d : Nat} {σ : Mem} {Q : MQ1} {x1 : Int32}  (h : ((x1 < 0 → Q [.inl (-100001)] (up σ 60 6 ((σ 60 6) + 1))) ∧ (¬ (x1 < 0) → ((15 < x1 → Q [.inl (-100001)] (up σ 60 6 ((σ 60 6) + 1))) ∧ (¬ (15 < x1) → Ev S (d + 3) 170 15 [some (.inr (some 60)), some (.inl x1), some (.inl (-1)), some (.inl 0), some (.inl 0)] [] σ Q))))) : Ev S (d + 3) 170 0 [some (.inr (some 60)), some (.inl x1), none, none, none] [] σ Q := by
  refine e_load q_170 rfl rfl rfl ?_
  refine e_push q_170 rfl ?_
  refine e_push q_170 rfl ?_
  refine e_stat q_170 rfl (Nat.le_of_ble_eq_true rfl) rfl rfl (Nat.le_of_ble_eq_true rfl) ?_
  show Ev S (d + 2) 119 0 [some (.inl x1), some (.inl 0), some (.inl 15)] [] σ _
  refine e_load q_119 rfl rfl rfl ?_
  refine e_load q_119 rfl rfl rfl ?_
  refine e_icmp (P := x1 < 0) q_119 rfl m_c2 (fun c => ?_) (fun c => ?_)
  · replace h := h.1 c
    refine e_push q_119 rfl ?_
    refine e_zreturn q_119 rfl rfl (by decide) ?_
    show Ev S (d + 3) 170 4 [some (.inr (some 60)), some (.inl x1), none, none, none] [.inl 0] σ _
    refine e_if (P := ¬ (0 : Int32) = 0) q_170 rfl m_c1 (fun c => absurd c (by decide)) (fun _ => ?_)
    refine e_load q_170 rfl rfl rfl ?_
    refine e_push q_170 rfl ?_
    refine e_virt q_170 rfl rfl (Nat.le_of_ble_eq_true rfl) rfl rfl (Nat.le_of_ble_eq_true rfl) rfl ?_
    show Ev S (d + 2) 118 0 [some (.inr (some 60)), some (.inl (-100001))] [] σ _
    refine e_load q_118 rfl rfl rfl ?_
    refine e_dup q_118 rfl ?_
    refine e_getI q_118 rfl rfl rfl ?_
    refine e_push q_118 rfl ?_
    refine e_bin (r := (σ 60 6) + 1) q_118 rfl rfl ?_
    refine e_putI q_118 rfl rfl rfl ?_
    refine e_load q_118 rfl rfl rfl ?_
    refine e_ireturn q_118 rfl rfl ?_
    show Ev S (d + 3) 170 8 [some (.inr (some 60)), some (.inl x1), none, none, none] [.inl (-100001)] (up σ 60 6 ((σ 60 6) + 1)) _
    exact e_ireturn q_170 rfl rfl h
  · replace h := h.2 c
    refine e_load q_119 rfl rfl rfl ?_
    refine e_load q_119 rfl rfl rfl ?_
    refine e_icmp (P := 15 < x1) q_119 rfl m_c4 (fun c => ?_) (fun c => ?_)
    · replace h := h.1 c
      refine e_push q_119 rfl ?_
      refine e_zreturn q_119 rfl rfl (by decide) ?_
      show Ev S (d + 3) 170 4 [some (.inr (some 60)), some (.inl x1), none, none, none] [.inl 0] σ _
      refine e_if (P := ¬ (0 : Int32) = 0) q_170 rfl m_c1 (fun c => absurd c (by decide)) (fun _ => ?_)
      refine e_load q_170 rfl rfl rfl ?_
      refine e_push q_170 rfl ?_
      refine e_virt q_170 rfl rfl (Nat.le_of_ble_eq_true rfl) rfl rfl (Nat.le_of_ble_eq_true rfl) rfl ?_
      show Ev S (d + 2) 118 0 [some (.inr (some 60)), some (.inl (-100001))] [] σ _
      refine e_load q_118 rfl rfl rfl ?_
      refine e_dup q_118 rfl ?_
      refine e_getI q_118 rfl rfl rfl ?_
      refine e_push q_118 rfl ?_
      refine e_bin (r := (σ 60 6) + 1) q_118 rfl rfl ?_
      refine e_putI q_118 rfl rfl rfl ?_
      refine e_load q_118 rfl rfl rfl ?_
      refine e_ireturn q_118 rfl rfl ?_
      show Ev S (d + 3) 170 8 [some (.inr (some 60)), some (.inl x1), none, none, none] [.inl (-100001)] (up σ 60 6 ((σ 60 6) + 1)) _
      exact e_ireturn q_170 rfl rfl h
    · replace h := h.2 c
      refine e_push q_119 rfl ?_
      refine e_goto q_119 rfl ?_
      refine e_zreturn q_119 rfl rfl (by decide) ?_
      show Ev S (d + 3) 170 4 [some (.inr (some 60)), some (.inl x1), none, none, none] [.inl 1] σ _
      refine e_if (P := ¬ (1 : Int32) = 0) q_170 rfl m_c1 (fun _ => ?_) (fun c => absurd (by decide) c)
      refine e_push q_170 rfl ?_
      refine e_store (ls' := [some (.inr (some 60)), some (.inl x1), some (.inl (-1)), none, none]) q_170 rfl (Nat.le_of_ble_eq_true rfl) rfl rfl ?_
      refine e_push q_170 rfl ?_
      refine e_store (ls' := [some (.inr (some 60)), some (.inl x1), some (.inl (-1)), some (.inl 0), none]) q_170 rfl (Nat.le_of_ble_eq_true rfl) rfl rfl ?_
      refine e_push q_170 rfl ?_
      refine e_store (ls' := [some (.inr (some 60)), some (.inl x1), some (.inl (-1)), some (.inl 0), some (.inl 0)]) q_170 rfl (Nat.le_of_ble_eq_true rfl) rfl rfl ?_
      exact h
theorem g_170_15 {S : Nat × (Nat → Int32)} {d : Nat} {σ : Mem} {Q : MQ1} {x1 : Int32} {x2 : Int32} {x3 : Int32} {x4 : Int32}  (h : (((σ 61 0) ≤ x4 → (((¬ x3 = 1) → Q [.inl (-100006)] (up σ 60 6 ((σ 60 6) + 1))) ∧ (¬ (¬ x3 = 1) → Q [.inl x2] σ))) ∧ (¬ ((σ 61 0) ≤ x4) → (∃ j2 : Nat, (1 + (9 * x4)) + 0 = nI j2 ∧ j2 < 86 ∧ (((¬ (σ 61 j2) = 2) → (∃ j3 : Nat, (1 + (9 * x4)) + 6 = nI j3 ∧ j3 < 86 ∧ (((σ 61 j3) < 0 → Ev S (d + 3) 170 15 [some (.inr (some 60)), some (.inl x1), some (.inl x2), some (.inl x3), some (.inl (x4 + 1))] [] σ Q) ∧ (¬ ((σ 61 j3) < 0) → (∃ j4 : Nat, (1 + (9 * x4)) + 4 = nI j4 ∧ j4 < 86 ∧ (((¬ (((σ 61 j4) >>> (x1 &&& 31)) &&& 1) = 1) → Ev S (d + 3) 170 15 [some (.inr (some 60)), some (.inl x1), some (.inl x2), some (.inl x3), some (.inl (x4 + 1))] [] σ Q) ∧ (¬ (¬ (((σ 61 j4) >>> (x1 &&& 31)) &&& 1) = 1) → Ev S (d + 3) 170 15 [some (.inr (some 60)), some (.inl x1), some (.inl x4), some (.inl (x3 + 1)), some (.inl (x4 + 1))] [] σ Q))))))) ∧ (¬ (¬ (σ 61 j2) = 2) → (∃ j5 : Nat, (1 + (9 * x4)) + 4 = nI j5 ∧ j5 < 86 ∧ (((¬ (((σ 61 j5) >>> (x1 &&& 31)) &&& 1) = 1) → Ev S (d + 3) 170 15 [some (.inr (some 60)), some (.inl x1), some (.inl x2), some (.inl x3), some (.inl (x4 + 1))] [] σ Q) ∧ (¬ (¬ (((σ 61 j5) >>> (x1 &&& 31)) &&& 1) = 1) → Ev S (d + 3) 170 15 [some (.inr (some 60)), some (.inl x1), some (.inl x4), some (.inl (x3 + 1)), some (.inl (x4 + 1))] [] σ Q))))))))) : Ev S (d + 3) 170 15 [some (.inr (some 60)), some (.inl x1), some (.inl x2), some (.inl x3), some (.inl x4)] [] σ Q := by
  refine e_load q_170 rfl rfl rfl ?_
  refine e_load q_170 rfl rfl rfl ?_
  refine e_getR q_170 rfl rfl rfl ?_
  refine e_push q_170 rfl ?_
  refine e_iald (j := 0) q_170 rfl rfl (by decide) (by decide +kernel) (by decide) ?_
  refine e_icmp (P := (σ 61 0) ≤ x4) q_170 rfl m_c3 (fun c => ?_) (fun c => ?_)
  · replace h := h.1 c
    refine e_load q_170 rfl rfl rfl ?_
    refine e_push q_170 rfl ?_
    refine e_icmp (P := ¬ x3 = 1) q_170 rfl m_c1 (fun c => ?_) (fun c => ?_)
    · replace h := h.1 c
      refine e_load q_170 rfl rfl rfl ?_
      refine e_push q_170 rfl ?_
      refine e_virt q_170 rfl rfl (Nat.le_of_ble_eq_true rfl) rfl rfl (Nat.le_of_ble_eq_true rfl) rfl ?_
      show Ev S (d + 2) 118 0 [some (.inr (some 60)), some (.inl (-100006))] [] σ _
      refine e_load q_118 rfl rfl rfl ?_
      refine e_dup q_118 rfl ?_
      refine e_getI q_118 rfl rfl rfl ?_
      refine e_push q_118 rfl ?_
      refine e_bin (r := (σ 60 6) + 1) q_118 rfl rfl ?_
      refine e_putI q_118 rfl rfl rfl ?_
      refine e_load q_118 rfl rfl rfl ?_
      refine e_ireturn q_118 rfl rfl ?_
      show Ev S (d + 3) 170 48 [some (.inr (some 60)), some (.inl x1), some (.inl x2), some (.inl x3), some (.inl x4)] [.inl (-100006)] (up σ 60 6 ((σ 60 6) + 1)) _
      exact e_ireturn q_170 rfl rfl h
    · replace h := h.2 c
      refine e_load q_170 rfl rfl rfl ?_
      refine e_goto q_170 rfl ?_
      exact e_ireturn q_170 rfl rfl h
  · replace h := h.2 c
    refine e_load q_170 rfl rfl rfl ?_
    refine e_load q_170 rfl rfl rfl ?_
    refine e_virt q_170 rfl rfl (Nat.le_of_ble_eq_true rfl) rfl rfl (Nat.le_of_ble_eq_true rfl) rfl ?_
    show Ev S (d + 2) 168 0 [some (.inr (some 60)), some (.inl x4)] [] σ _
    refine e_load q_168 rfl rfl rfl ?_
    refine e_load q_168 rfl rfl rfl ?_
    refine e_virt q_168 rfl rfl (Nat.le_of_ble_eq_true rfl) rfl rfl (Nat.le_of_ble_eq_true rfl) rfl ?_
    show Ev S (d + 1) 124 0 [some (.inr (some 60)), some (.inl x4)] [] σ _
    refine e_load q_124 rfl rfl rfl ?_
    refine e_load q_124 rfl rfl rfl ?_
    refine e_push q_124 rfl ?_
    refine e_virt q_124 rfl rfl (Nat.le_of_ble_eq_true rfl) rfl rfl (Nat.le_of_ble_eq_true rfl) rfl ?_
    show Ev S d 122 0 [some (.inr (some 60)), some (.inl x4), some (.inl 0)] [] σ _
    refine e_load q_122 rfl rfl rfl ?_
    refine e_getR q_122 rfl rfl rfl ?_
    refine e_push q_122 rfl ?_
    refine e_push q_122 rfl ?_
    refine e_load q_122 rfl rfl rfl ?_
    refine e_bin (r := 9 * x4) q_122 rfl rfl ?_
    refine e_bin (r := 1 + (9 * x4)) q_122 rfl rfl ?_
    refine e_load q_122 rfl rfl rfl ?_
    refine e_bin (r := (1 + (9 * x4)) + 0) q_122 rfl rfl ?_
    obtain ⟨j2, hjj2, hlj2, h⟩ := h
    refine e_iald q_122 rfl rfl (by decide) hjj2 hlj2 ?_
    refine e_ireturn q_122 rfl rfl ?_
    show Ev S (d + 1) 124 4 [some (.inr (some 60)), some (.inl x4)] [.inl (σ 61 j2)] σ _
    refine e_push q_124 rfl ?_
    refine e_icmp (P := ¬ (σ 61 j2) = 2) q_124 rfl m_c1 (fun c => ?_) (fun c => ?_)
    · replace h := h.1 c
      refine e_push q_124 rfl ?_
      refine e_zreturn q_124 rfl rfl (by decide) ?_
      show Ev S (d + 2) 168 3 [some (.inr (some 60)), some (.inl x4)] [.inl 0] σ _
      refine e_if (P := ¬ (0 : Int32) = 0) q_168 rfl m_c1 (fun c => absurd c (by decide)) (fun _ => ?_)
      refine e_load q_168 rfl rfl rfl ?_
      refine e_load q_168 rfl rfl rfl ?_
      refine e_push q_168 rfl ?_
      refine e_virt q_168 rfl rfl (Nat.le_of_ble_eq_true rfl) rfl rfl (Nat.le_of_ble_eq_true rfl) rfl ?_
      show Ev S (d + 1) 122 0 [some (.inr (some 60)), some (.inl x4), some (.inl 6)] [] σ _
      refine e_load q_122 rfl rfl rfl ?_
      refine e_getR q_122 rfl rfl rfl ?_
      refine e_push q_122 rfl ?_
      refine e_push q_122 rfl ?_
      refine e_load q_122 rfl rfl rfl ?_
      refine e_bin (r := 9 * x4) q_122 rfl rfl ?_
      refine e_bin (r := 1 + (9 * x4)) q_122 rfl rfl ?_
      refine e_load q_122 rfl rfl rfl ?_
      refine e_bin (r := (1 + (9 * x4)) + 6) q_122 rfl rfl ?_
      obtain ⟨j3, hjj3, hlj3, h⟩ := h
      refine e_iald q_122 rfl rfl (by decide) hjj3 hlj3 ?_
      refine e_ireturn q_122 rfl rfl ?_
      show Ev S (d + 2) 168 8 [some (.inr (some 60)), some (.inl x4)] [.inl (σ 61 j3)] σ _
      refine e_if (P := (σ 61 j3) < 0) q_168 rfl m_c2 (fun c => ?_) (fun c => ?_)
      · replace h := h.1 c
        refine e_push q_168 rfl ?_
        refine e_zreturn q_168 rfl rfl (by decide) ?_
        show Ev S (d + 3) 170 24 [some (.inr (some 60)), some (.inl x1), some (.inl x2), some (.inl x3), some (.inl x4)] [.inl 0] σ _
        refine e_if (P := (0 : Int32) = 0) q_170 rfl m_c0 (fun _ => ?_) (fun c => absurd (by decide) c)
        refine e_iinc (ls' := [some (.inr (some 60)), some (.inl x1), some (.inl x2), some (.inl x3), some (.inl (x4 + 1))]) q_170 rfl rfl rfl ?_
        refine e_goto q_170 rfl ?_
        exact h
      · replace h := h.2 c
        refine e_push q_168 rfl ?_
        refine e_goto q_168 rfl ?_
        refine e_zreturn q_168 rfl rfl (by decide) ?_
        show Ev S (d + 3) 170 24 [some (.inr (some 60)), some (.inl x1), some (.inl x2), some (.inl x3), some (.inl x4)] [.inl 1] σ _
        refine e_if (P := (1 : Int32) = 0) q_170 rfl m_c0 (fun c => absurd c (by decide)) (fun _ => ?_)
        refine e_load q_170 rfl rfl rfl ?_
        refine e_load q_170 rfl rfl rfl ?_
        refine e_push q_170 rfl ?_
        refine e_virt q_170 rfl rfl (Nat.le_of_ble_eq_true rfl) rfl rfl (Nat.le_of_ble_eq_true rfl) rfl ?_
        show Ev S (d + 2) 122 0 [some (.inr (some 60)), some (.inl x4), some (.inl 4)] [] σ _
        refine e_load q_122 rfl rfl rfl ?_
        refine e_getR q_122 rfl rfl rfl ?_
        refine e_push q_122 rfl ?_
        refine e_push q_122 rfl ?_
        refine e_load q_122 rfl rfl rfl ?_
        refine e_bin (r := 9 * x4) q_122 rfl rfl ?_
        refine e_bin (r := 1 + (9 * x4)) q_122 rfl rfl ?_
        refine e_load q_122 rfl rfl rfl ?_
        refine e_bin (r := (1 + (9 * x4)) + 4) q_122 rfl rfl ?_
        obtain ⟨j4, hjj4, hlj4, h⟩ := h
        refine e_iald q_122 rfl rfl (by decide) hjj4 hlj4 ?_
        refine e_ireturn q_122 rfl rfl ?_
        show Ev S (d + 3) 170 29 [some (.inr (some 60)), some (.inl x1), some (.inl x2), some (.inl x3), some (.inl x4)] [.inl (σ 61 j4)] σ _
        refine e_load q_170 rfl rfl rfl ?_
        refine e_bin (r := (σ 61 j4) >>> (x1 &&& 31)) q_170 rfl rfl ?_
        refine e_push q_170 rfl ?_
        refine e_bin (r := ((σ 61 j4) >>> (x1 &&& 31)) &&& 1) q_170 rfl rfl ?_
        refine e_push q_170 rfl ?_
        refine e_icmp (P := ¬ (((σ 61 j4) >>> (x1 &&& 31)) &&& 1) = 1) q_170 rfl m_c1 (fun c => ?_) (fun c => ?_)
        · replace h := h.1 c
          refine e_iinc (ls' := [some (.inr (some 60)), some (.inl x1), some (.inl x2), some (.inl x3), some (.inl (x4 + 1))]) q_170 rfl rfl rfl ?_
          refine e_goto q_170 rfl ?_
          exact h
        · replace h := h.2 c
          refine e_load q_170 rfl rfl rfl ?_
          refine e_store (ls' := [some (.inr (some 60)), some (.inl x1), some (.inl x4), some (.inl x3), some (.inl x4)]) q_170 rfl (Nat.le_of_ble_eq_true rfl) rfl rfl ?_
          refine e_iinc (ls' := [some (.inr (some 60)), some (.inl x1), some (.inl x4), some (.inl (x3 + 1)), some (.inl x4)]) q_170 rfl rfl rfl ?_
          refine e_iinc (ls' := [some (.inr (some 60)), some (.inl x1), some (.inl x4), some (.inl (x3 + 1)), some (.inl (x4 + 1))]) q_170 rfl rfl rfl ?_
          refine e_goto q_170 rfl ?_
          exact h
    · replace h := h.2 c
      refine e_push q_124 rfl ?_
      refine e_goto q_124 rfl ?_
      refine e_zreturn q_124 rfl rfl (by decide) ?_
      show Ev S (d + 2) 168 3 [some (.inr (some 60)), some (.inl x4)] [.inl 1] σ _
      refine e_if (P := ¬ (1 : Int32) = 0) q_168 rfl m_c1 (fun _ => ?_) (fun c => absurd (by decide) c)
      refine e_push q_168 rfl ?_
      refine e_goto q_168 rfl ?_
      refine e_zreturn q_168 rfl rfl (by decide) ?_
      show Ev S (d + 3) 170 24 [some (.inr (some 60)), some (.inl x1), some (.inl x2), some (.inl x3), some (.inl x4)] [.inl 1] σ _
      refine e_if (P := (1 : Int32) = 0) q_170 rfl m_c0 (fun c => absurd c (by decide)) (fun _ => ?_)
      refine e_load q_170 rfl rfl rfl ?_
      refine e_load q_170 rfl rfl rfl ?_
      refine e_push q_170 rfl ?_
      refine e_virt q_170 rfl rfl (Nat.le_of_ble_eq_true rfl) rfl rfl (Nat.le_of_ble_eq_true rfl) rfl ?_
      show Ev S (d + 2) 122 0 [some (.inr (some 60)), some (.inl x4), some (.inl 4)] [] σ _
      refine e_load q_122 rfl rfl rfl ?_
      refine e_getR q_122 rfl rfl rfl ?_
      refine e_push q_122 rfl ?_
      refine e_push q_122 rfl ?_
      refine e_load q_122 rfl rfl rfl ?_
      refine e_bin (r := 9 * x4) q_122 rfl rfl ?_
      refine e_bin (r := 1 + (9 * x4)) q_122 rfl rfl ?_
      refine e_load q_122 rfl rfl rfl ?_
      refine e_bin (r := (1 + (9 * x4)) + 4) q_122 rfl rfl ?_
      obtain ⟨j5, hjj5, hlj5, h⟩ := h
      refine e_iald q_122 rfl rfl (by decide) hjj5 hlj5 ?_
      refine e_ireturn q_122 rfl rfl ?_
      show Ev S (d + 3) 170 29 [some (.inr (some 60)), some (.inl x1), some (.inl x2), some (.inl x3), some (.inl x4)] [.inl (σ 61 j5)] σ _
      refine e_load q_170 rfl rfl rfl ?_
      refine e_bin (r := (σ 61 j5) >>> (x1 &&& 31)) q_170 rfl rfl ?_
      refine e_push q_170 rfl ?_
      refine e_bin (r := ((σ 61 j5) >>> (x1 &&& 31)) &&& 1) q_170 rfl rfl ?_
      refine e_push q_170 rfl ?_
      refine e_icmp (P := ¬ (((σ 61 j5) >>> (x1 &&& 31)) &&& 1) = 1) q_170 rfl m_c1 (fun c => ?_) (fun c => ?_)
      · replace h := h.1 c
        refine e_iinc (ls' := [some (.inr (some 60)), some (.inl x1), some (.inl x2), some (.inl x3), some (.inl (x4 + 1))]) q_170 rfl rfl rfl ?_
        refine e_goto q_170 rfl ?_
        exact h
      · replace h := h.2 c
        refine e_load q_170 rfl rfl rfl ?_
        refine e_store (ls' := [some (.inr (some 60)), some (.inl x1), some (.inl x4), some (.inl x3), some (.inl x4)]) q_170 rfl (Nat.le_of_ble_eq_true rfl) rfl rfl ?_
        refine e_iinc (ls' := [some (.inr (some 60)), some (.inl x1), some (.inl x4), some (.inl (x3 + 1)), some (.inl x4)]) q_170 rfl rfl rfl ?_
        refine e_iinc (ls' := [some (.inr (some 60)), some (.inl x1), some (.inl x4), some (.inl (x3 + 1)), some (.inl (x4 + 1))]) q_170 rfl rfl rfl ?_
        refine e_goto q_170 rfl ?_
        exact h
theorem g_171_0 {S : Nat × (Nat → Int32)} {d : Nat} {σ : Mem} {Q : MQ1} {x1 : Int32} {x2 : Int32}  (h : ((x1 < 0 → Q [.inl (-100001)] (up σ 60 6 ((σ 60 6) + 1))) ∧ (¬ (x1 < 0) → (((σ 61 0) ≤ x1 → Q [.inl (-100001)] (up σ 60 6 ((σ 60 6) + 1))) ∧ (¬ ((σ 61 0) ≤ x1) → ((x2 < 1 → Q [.inl (-100001)] (up σ 60 6 ((σ 60 6) + 1))) ∧ (¬ (x2 < 1) → ((100 < x2 → Q [.inl (-100001)] (up σ 60 6 ((σ 60 6) + 1))) ∧ (¬ (100 < x2) → (∃ j2 : Nat, (1 + (9 * x1)) + 8 = nI j2 ∧ j2 < 86 ∧ ((((σ 61 j2) + x2) ≤ 1000 → Ec S d 126 [.inr (some 60)] σ (fun rv σ' => Ev S (d + 1) 171 27 [some (.inr (some 60)), some (.inl x1), some (.inl x2)] (rv ++ []) σ' Q)) ∧ (¬ (((σ 61 j2) + x2) ≤ 1000) → Q [.inl (-100005)] (up σ 60 6 ((σ 60 6) + 1)))))))))))))) : Ev S (d + 1) 171 0 [some (.inr (some 60)), some (.inl x1), some (.inl x2)] [] σ Q := by
  refine e_load q_171 rfl rfl rfl ?_
  refine e_load q_171 rfl rfl rfl ?_
  refine e_virt q_171 rfl rfl (Nat.le_of_ble_eq_true rfl) rfl rfl (Nat.le_of_ble_eq_true rfl) rfl ?_
  show Ev S d 120 0 [some (.inr (some 60)), some (.inl x1)] [] σ _
  refine e_load q_120 rfl rfl rfl ?_
  refine e_if (P := x1 < 0) q_120 rfl m_c2 (fun c => ?_) (fun c => ?_)
  · replace h := h.1 c
    refine e_push q_120 rfl ?_
    refine e_zreturn q_120 rfl rfl (by decide) ?_
    show Ev S (d + 1) 171 3 [some (.inr (some 60)), some (.inl x1), some (.inl x2)] [.inl 0] σ _
    refine e_if (P := (0 : Int32) = 0) q_171 rfl m_c0 (fun _ => ?_) (fun c => absurd (by decide) c)
    refine e_load q_171 rfl rfl rfl ?_
    refine e_push q_171 rfl ?_
    refine e_virt q_171 rfl rfl (Nat.le_of_ble_eq_true rfl) rfl rfl (Nat.le_of_ble_eq_true rfl) rfl ?_
    show Ev S d 118 0 [some (.inr (some 60)), some (.inl (-100001))] [] σ _
    refine e_load q_118 rfl rfl rfl ?_
    refine e_dup q_118 rfl ?_
    refine e_getI q_118 rfl rfl rfl ?_
    refine e_push q_118 rfl ?_
    refine e_bin (r := (σ 60 6) + 1) q_118 rfl rfl ?_
    refine e_putI q_118 rfl rfl rfl ?_
    refine e_load q_118 rfl rfl rfl ?_
    refine e_ireturn q_118 rfl rfl ?_
    show Ev S (d + 1) 171 12 [some (.inr (some 60)), some (.inl x1), some (.inl x2)] [.inl (-100001)] (up σ 60 6 ((σ 60 6) + 1)) _
    exact e_ireturn q_171 rfl rfl h
  · replace h := h.2 c
    refine e_load q_120 rfl rfl rfl ?_
    refine e_load q_120 rfl rfl rfl ?_
    refine e_getR q_120 rfl rfl rfl ?_
    refine e_push q_120 rfl ?_
    refine e_iald (j := 0) q_120 rfl rfl (by decide) (by decide +kernel) (by decide) ?_
    refine e_icmp (P := (σ 61 0) ≤ x1) q_120 rfl m_c3 (fun c => ?_) (fun c => ?_)
    · replace h := h.1 c
      refine e_push q_120 rfl ?_
      refine e_zreturn q_120 rfl rfl (by decide) ?_
      show Ev S (d + 1) 171 3 [some (.inr (some 60)), some (.inl x1), some (.inl x2)] [.inl 0] σ _
      refine e_if (P := (0 : Int32) = 0) q_171 rfl m_c0 (fun _ => ?_) (fun c => absurd (by decide) c)
      refine e_load q_171 rfl rfl rfl ?_
      refine e_push q_171 rfl ?_
      refine e_virt q_171 rfl rfl (Nat.le_of_ble_eq_true rfl) rfl rfl (Nat.le_of_ble_eq_true rfl) rfl ?_
      show Ev S d 118 0 [some (.inr (some 60)), some (.inl (-100001))] [] σ _
      refine e_load q_118 rfl rfl rfl ?_
      refine e_dup q_118 rfl ?_
      refine e_getI q_118 rfl rfl rfl ?_
      refine e_push q_118 rfl ?_
      refine e_bin (r := (σ 60 6) + 1) q_118 rfl rfl ?_
      refine e_putI q_118 rfl rfl rfl ?_
      refine e_load q_118 rfl rfl rfl ?_
      refine e_ireturn q_118 rfl rfl ?_
      show Ev S (d + 1) 171 12 [some (.inr (some 60)), some (.inl x1), some (.inl x2)] [.inl (-100001)] (up σ 60 6 ((σ 60 6) + 1)) _
      exact e_ireturn q_171 rfl rfl h
    · replace h := h.2 c
      refine e_push q_120 rfl ?_
      refine e_goto q_120 rfl ?_
      refine e_zreturn q_120 rfl rfl (by decide) ?_
      show Ev S (d + 1) 171 3 [some (.inr (some 60)), some (.inl x1), some (.inl x2)] [.inl 1] σ _
      refine e_if (P := (1 : Int32) = 0) q_171 rfl m_c0 (fun c => absurd c (by decide)) (fun _ => ?_)
      refine e_load q_171 rfl rfl rfl ?_
      refine e_push q_171 rfl ?_
      refine e_push q_171 rfl ?_
      refine e_stat q_171 rfl (Nat.le_of_ble_eq_true rfl) rfl rfl (Nat.le_of_ble_eq_true rfl) ?_
      show Ev S d 119 0 [some (.inl x2), some (.inl 1), some (.inl 100)] [] σ _
      refine e_load q_119 rfl rfl rfl ?_
      refine e_load q_119 rfl rfl rfl ?_
      refine e_icmp (P := x2 < 1) q_119 rfl m_c2 (fun c => ?_) (fun c => ?_)
      · replace h := h.1 c
        refine e_push q_119 rfl ?_
        refine e_zreturn q_119 rfl rfl (by decide) ?_
        show Ev S (d + 1) 171 8 [some (.inr (some 60)), some (.inl x1), some (.inl x2)] [.inl 0] σ _
        refine e_if (P := ¬ (0 : Int32) = 0) q_171 rfl m_c1 (fun c => absurd c (by decide)) (fun _ => ?_)
        refine e_load q_171 rfl rfl rfl ?_
        refine e_push q_171 rfl ?_
        refine e_virt q_171 rfl rfl (Nat.le_of_ble_eq_true rfl) rfl rfl (Nat.le_of_ble_eq_true rfl) rfl ?_
        show Ev S d 118 0 [some (.inr (some 60)), some (.inl (-100001))] [] σ _
        refine e_load q_118 rfl rfl rfl ?_
        refine e_dup q_118 rfl ?_
        refine e_getI q_118 rfl rfl rfl ?_
        refine e_push q_118 rfl ?_
        refine e_bin (r := (σ 60 6) + 1) q_118 rfl rfl ?_
        refine e_putI q_118 rfl rfl rfl ?_
        refine e_load q_118 rfl rfl rfl ?_
        refine e_ireturn q_118 rfl rfl ?_
        show Ev S (d + 1) 171 12 [some (.inr (some 60)), some (.inl x1), some (.inl x2)] [.inl (-100001)] (up σ 60 6 ((σ 60 6) + 1)) _
        exact e_ireturn q_171 rfl rfl h
      · replace h := h.2 c
        refine e_load q_119 rfl rfl rfl ?_
        refine e_load q_119 rfl rfl rfl ?_
        refine e_icmp (P := 100 < x2) q_119 rfl m_c4 (fun c => ?_) (fun c => ?_)
        · replace h := h.1 c
          refine e_push q_119 rfl ?_
          refine e_zreturn q_119 rfl rfl (by decide) ?_
          show Ev S (d + 1) 171 8 [some (.inr (some 60)), some (.inl x1), some (.inl x2)] [.inl 0] σ _
          refine e_if (P := ¬ (0 : Int32) = 0) q_171 rfl m_c1 (fun c => absurd c (by decide)) (fun _ => ?_)
          refine e_load q_171 rfl rfl rfl ?_
          refine e_push q_171 rfl ?_
          refine e_virt q_171 rfl rfl (Nat.le_of_ble_eq_true rfl) rfl rfl (Nat.le_of_ble_eq_true rfl) rfl ?_
          show Ev S d 118 0 [some (.inr (some 60)), some (.inl (-100001))] [] σ _
          refine e_load q_118 rfl rfl rfl ?_
          refine e_dup q_118 rfl ?_
          refine e_getI q_118 rfl rfl rfl ?_
          refine e_push q_118 rfl ?_
          refine e_bin (r := (σ 60 6) + 1) q_118 rfl rfl ?_
          refine e_putI q_118 rfl rfl rfl ?_
          refine e_load q_118 rfl rfl rfl ?_
          refine e_ireturn q_118 rfl rfl ?_
          show Ev S (d + 1) 171 12 [some (.inr (some 60)), some (.inl x1), some (.inl x2)] [.inl (-100001)] (up σ 60 6 ((σ 60 6) + 1)) _
          exact e_ireturn q_171 rfl rfl h
        · replace h := h.2 c
          refine e_push q_119 rfl ?_
          refine e_goto q_119 rfl ?_
          refine e_zreturn q_119 rfl rfl (by decide) ?_
          show Ev S (d + 1) 171 8 [some (.inr (some 60)), some (.inl x1), some (.inl x2)] [.inl 1] σ _
          refine e_if (P := ¬ (1 : Int32) = 0) q_171 rfl m_c1 (fun _ => ?_) (fun c => absurd (by decide) c)
          refine e_load q_171 rfl rfl rfl ?_
          refine e_load q_171 rfl rfl rfl ?_
          refine e_push q_171 rfl ?_
          refine e_virt q_171 rfl rfl (Nat.le_of_ble_eq_true rfl) rfl rfl (Nat.le_of_ble_eq_true rfl) rfl ?_
          show Ev S d 122 0 [some (.inr (some 60)), some (.inl x1), some (.inl 8)] [] σ _
          refine e_load q_122 rfl rfl rfl ?_
          refine e_getR q_122 rfl rfl rfl ?_
          refine e_push q_122 rfl ?_
          refine e_push q_122 rfl ?_
          refine e_load q_122 rfl rfl rfl ?_
          refine e_bin (r := 9 * x1) q_122 rfl rfl ?_
          refine e_bin (r := 1 + (9 * x1)) q_122 rfl rfl ?_
          refine e_load q_122 rfl rfl rfl ?_
          refine e_bin (r := (1 + (9 * x1)) + 8) q_122 rfl rfl ?_
          obtain ⟨j2, hjj2, hlj2, h⟩ := h
          refine e_iald q_122 rfl rfl (by decide) hjj2 hlj2 ?_
          refine e_ireturn q_122 rfl rfl ?_
          show Ev S (d + 1) 171 17 [some (.inr (some 60)), some (.inl x1), some (.inl x2)] [.inl (σ 61 j2)] σ _
          refine e_load q_171 rfl rfl rfl ?_
          refine e_bin (r := (σ 61 j2) + x2) q_171 rfl rfl ?_
          refine e_push q_171 rfl ?_
          refine e_icmp (P := ((σ 61 j2) + x2) ≤ 1000) q_171 rfl m_c5 (fun c => ?_) (fun c => ?_)
          · replace h := h.1 c
            refine e_load q_171 rfl rfl rfl ?_
            exact e_virt q_171 rfl rfl (Nat.le_of_ble_eq_true rfl) rfl rfl (Nat.le_of_ble_eq_true rfl) rfl h
          · replace h := h.2 c
            refine e_load q_171 rfl rfl rfl ?_
            refine e_push q_171 rfl ?_
            refine e_virt q_171 rfl rfl (Nat.le_of_ble_eq_true rfl) rfl rfl (Nat.le_of_ble_eq_true rfl) rfl ?_
            show Ev S d 118 0 [some (.inr (some 60)), some (.inl (-100005))] [] σ _
            refine e_load q_118 rfl rfl rfl ?_
            refine e_dup q_118 rfl ?_
            refine e_getI q_118 rfl rfl rfl ?_
            refine e_push q_118 rfl ?_
            refine e_bin (r := (σ 60 6) + 1) q_118 rfl rfl ?_
            refine e_putI q_118 rfl rfl rfl ?_
            refine e_load q_118 rfl rfl rfl ?_
            refine e_ireturn q_118 rfl rfl ?_
            show Ev S (d + 1) 171 24 [some (.inr (some 60)), some (.inl x1), some (.inl x2)] [.inl (-100005)] (up σ 60 6 ((σ 60 6) + 1)) _
            exact e_ireturn q_171 rfl rfl h
theorem g_171_27 {S : Nat × (Nat → Int32)} {d : Nat} {σ : Mem} {Q : MQ1} {x1 : Int32} {x2 : Int32}  (h : (∃ j1 : Nat, (1 + (9 * x1)) + 8 = nI j1 ∧ j1 < 86 ∧ (∃ j2 : Nat, (1 + (9 * x1)) + 8 = nI j2 ∧ j2 < 86 ∧ (∃ j3 : Nat, (1 + (9 * x1)) + 8 = nI j3 ∧ j3 < 86 ∧ Q [.inl ((up σ 61 j2 ((σ 61 j1) + x2)) 61 j3)] (up σ 61 j2 ((σ 61 j1) + x2)))))) : Ev S (d + 1) 171 27 [some (.inr (some 60)), some (.inl x1), some (.inl x2)] [] σ Q := by
  refine e_load q_171 rfl rfl rfl ?_
  refine e_load q_171 rfl rfl rfl ?_
  refine e_push q_171 rfl ?_
  refine e_load q_171 rfl rfl rfl ?_
  refine e_load q_171 rfl rfl rfl ?_
  refine e_push q_171 rfl ?_
  refine e_virt q_171 rfl rfl (Nat.le_of_ble_eq_true rfl) rfl rfl (Nat.le_of_ble_eq_true rfl) rfl ?_
  show Ev S d 122 0 [some (.inr (some 60)), some (.inl x1), some (.inl 8)] [] σ _
  refine e_load q_122 rfl rfl rfl ?_
  refine e_getR q_122 rfl rfl rfl ?_
  refine e_push q_122 rfl ?_
  refine e_push q_122 rfl ?_
  refine e_load q_122 rfl rfl rfl ?_
  refine e_bin (r := 9 * x1) q_122 rfl rfl ?_
  refine e_bin (r := 1 + (9 * x1)) q_122 rfl rfl ?_
  refine e_load q_122 rfl rfl rfl ?_
  refine e_bin (r := (1 + (9 * x1)) + 8) q_122 rfl rfl ?_
  obtain ⟨j1, hjj1, hlj1, h⟩ := h
  refine e_iald q_122 rfl rfl (by decide) hjj1 hlj1 ?_
  refine e_ireturn q_122 rfl rfl ?_
  show Ev S (d + 1) 171 34 [some (.inr (some 60)), some (.inl x1), some (.inl x2)] [.inl (σ 61 j1), .inl 8, .inl x1, .inr (some 60)] σ _
  refine e_load q_171 rfl rfl rfl ?_
  refine e_bin (r := (σ 61 j1) + x2) q_171 rfl rfl ?_
  refine e_virt q_171 rfl rfl (Nat.le_of_ble_eq_true rfl) rfl rfl (Nat.le_of_ble_eq_true rfl) rfl ?_
  show Ev S d 123 0 [some (.inr (some 60)), some (.inl x1), some (.inl 8), some (.inl ((σ 61 j1) + x2))] [] σ _
  refine e_load q_123 rfl rfl rfl ?_
  refine e_getR q_123 rfl rfl rfl ?_
  refine e_push q_123 rfl ?_
  refine e_push q_123 rfl ?_
  refine e_load q_123 rfl rfl rfl ?_
  refine e_bin (r := 9 * x1) q_123 rfl rfl ?_
  refine e_bin (r := 1 + (9 * x1)) q_123 rfl rfl ?_
  refine e_load q_123 rfl rfl rfl ?_
  refine e_bin (r := (1 + (9 * x1)) + 8) q_123 rfl rfl ?_
  refine e_load q_123 rfl rfl rfl ?_
  obtain ⟨j2, hjj2, hlj2, h⟩ := h
  refine e_iast q_123 rfl rfl (by decide) hjj2 hlj2 ?_
  refine e_return q_123 rfl rfl ?_
  show Ev S (d + 1) 171 37 [some (.inr (some 60)), some (.inl x1), some (.inl x2)] [] (up σ 61 j2 ((σ 61 j1) + x2)) _
  refine e_load q_171 rfl rfl rfl ?_
  refine e_load q_171 rfl rfl rfl ?_
  refine e_push q_171 rfl ?_
  refine e_virt q_171 rfl rfl (Nat.le_of_ble_eq_true rfl) rfl rfl (Nat.le_of_ble_eq_true rfl) rfl ?_
  show Ev S d 122 0 [some (.inr (some 60)), some (.inl x1), some (.inl 8)] [] (up σ 61 j2 ((σ 61 j1) + x2)) _
  refine e_load q_122 rfl rfl rfl ?_
  refine e_getR q_122 rfl rfl rfl ?_
  refine e_push q_122 rfl ?_
  refine e_push q_122 rfl ?_
  refine e_load q_122 rfl rfl rfl ?_
  refine e_bin (r := 9 * x1) q_122 rfl rfl ?_
  refine e_bin (r := 1 + (9 * x1)) q_122 rfl rfl ?_
  refine e_load q_122 rfl rfl rfl ?_
  refine e_bin (r := (1 + (9 * x1)) + 8) q_122 rfl rfl ?_
  obtain ⟨j3, hjj3, hlj3, h⟩ := h
  refine e_iald q_122 rfl rfl (by decide) hjj3 hlj3 ?_
  refine e_ireturn q_122 rfl rfl ?_
  show Ev S (d + 1) 171 41 [some (.inr (some 60)), some (.inl x1), some (.inl x2)] [.inl ((up σ 61 j2 ((σ 61 j1) + x2)) 61 j3)] (up σ 61 j2 ((σ 61 j1) + x2)) _
  exact e_ireturn q_171 rfl rfl h
theorem g_172_0 {S : Nat × (Nat → Int32)} {d : Nat} {σ : Mem} {Q : MQ1} {x1 : Int32} {x2 : Int32}  (h : Ev S (d + 2) 172 4 [some (.inr (some 60)), some (.inl x1), some (.inl x2), some (.inl 0), some (.inl 0)] [] σ Q) : Ev S (d + 2) 172 0 [some (.inr (some 60)), some (.inl x1), some (.inl x2), none, none] [] σ Q := by
  refine e_push q_172 rfl ?_
  refine e_store (ls' := [some (.inr (some 60)), some (.inl x1), some (.inl x2), some (.inl 0), none]) q_172 rfl (Nat.le_of_ble_eq_true rfl) rfl rfl ?_
  refine e_push q_172 rfl ?_
  refine e_store (ls' := [some (.inr (some 60)), some (.inl x1), some (.inl x2), some (.inl 0), some (.inl 0)]) q_172 rfl (Nat.le_of_ble_eq_true rfl) rfl rfl ?_
  exact h
theorem g_172_4 {S : Nat × (Nat → Int32)} {d : Nat} {σ : Mem} {Q : MQ1} {x1 : Int32} {x2 : Int32} {x3 : Int32} {x4 : Int32}  (h : ((x2 < x4 → Q [.inl x3] σ) ∧ (¬ (x2 < x4) → (∃ j1 : Nat, (1 + (9 * x1)) + 0 = nI j1 ∧ j1 < 86 ∧ (((¬ (σ 61 j1) = 2) → (∃ j2 : Nat, (1 + (9 * x1)) + 6 = nI j2 ∧ j2 < 86 ∧ (((¬ (σ 61 j2) = x4) → (∃ j3 : Nat, (1 + (9 * x1)) + 7 = nI j3 ∧ j3 < 86 ∧ (((¬ (σ 61 j3) = x4) → Ev S (d + 2) 172 4 [some (.inr (some 60)), some (.inl x1), some (.inl x2), some (.inl ((x3 + 0) + 0)), some (.inl (x4 + 1))] [] σ Q) ∧ (¬ (¬ (σ 61 j3) = x4) → Ev S (d + 2) 172 4 [some (.inr (some 60)), some (.inl x1), some (.inl x2), some (.inl ((x3 + 0) + 1)), some (.inl (x4 + 1))] [] σ Q)))) ∧ (¬ (¬ (σ 61 j2) = x4) → (∃ j4 : Nat, (1 + (9 * x1)) + 1 = nI j4 ∧ j4 < 86 ∧ (∃ j5 : Nat, (1 + (9 * x1)) + 7 = nI j5 ∧ j5 < 86 ∧ (((¬ (σ 61 j5) = x4) → Ev S (d + 2) 172 4 [some (.inr (some 60)), some (.inl x1), some (.inl x2), some (.inl ((x3 + (σ 61 j4)) + 0)), some (.inl (x4 + 1))] [] σ Q) ∧ (¬ (¬ (σ 61 j5) = x4) → Ev S (d + 2) 172 4 [some (.inr (some 60)), some (.inl x1), some (.inl x2), some (.inl ((x3 + (σ 61 j4)) + 1)), some (.inl (x4 + 1))] [] σ Q)))))))) ∧ (¬ (¬ (σ 61 j1) = 2) → (∃ j6 : Nat, 79 + x4 = nI j6 ∧ j6 < 86 ∧ (((¬ (σ 61 j6) = 1) → Ev S (d + 2) 172 4 [some (.inr (some 60)), some (.inl x1), some (.inl x2), some (.inl (x3 + 1)), some (.inl (x4 + 1))] [] σ Q) ∧ (¬ (¬ (σ 61 j6) = 1) → Ev S (d + 2) 172 4 [some (.inr (some 60)), some (.inl x1), some (.inl x2), some (.inl (x3 + 0)), some (.inl (x4 + 1))] [] σ Q))))))))) : Ev S (d + 2) 172 4 [some (.inr (some 60)), some (.inl x1), some (.inl x2), some (.inl x3), some (.inl x4)] [] σ Q := by
  refine e_load q_172 rfl rfl rfl ?_
  refine e_load q_172 rfl rfl rfl ?_
  refine e_icmp (P := x2 < x4) q_172 rfl m_c4 (fun c => ?_) (fun c => ?_)
  · replace h := h.1 c
    refine e_load q_172 rfl rfl rfl ?_
    exact e_ireturn q_172 rfl rfl h
  · replace h := h.2 c
    refine e_load q_172 rfl rfl rfl ?_
    refine e_load q_172 rfl rfl rfl ?_
    refine e_virt q_172 rfl rfl (Nat.le_of_ble_eq_true rfl) rfl rfl (Nat.le_of_ble_eq_true rfl) rfl ?_
    show Ev S (d + 1) 124 0 [some (.inr (some 60)), some (.inl x1)] [] σ _
    refine e_load q_124 rfl rfl rfl ?_
    refine e_load q_124 rfl rfl rfl ?_
    refine e_push q_124 rfl ?_
    refine e_virt q_124 rfl rfl (Nat.le_of_ble_eq_true rfl) rfl rfl (Nat.le_of_ble_eq_true rfl) rfl ?_
    show Ev S d 122 0 [some (.inr (some 60)), some (.inl x1), some (.inl 0)] [] σ _
    refine e_load q_122 rfl rfl rfl ?_
    refine e_getR q_122 rfl rfl rfl ?_
    refine e_push q_122 rfl ?_
    refine e_push q_122 rfl ?_
    refine e_load q_122 rfl rfl rfl ?_
    refine e_bin (r := 9 * x1) q_122 rfl rfl ?_
    refine e_bin (r := 1 + (9 * x1)) q_122 rfl rfl ?_
    refine e_load q_122 rfl rfl rfl ?_
    refine e_bin (r := (1 + (9 * x1)) + 0) q_122 rfl rfl ?_
    obtain ⟨j1, hjj1, hlj1, h⟩ := h
    refine e_iald q_122 rfl rfl (by decide) hjj1 hlj1 ?_
    refine e_ireturn q_122 rfl rfl ?_
    show Ev S (d + 1) 124 4 [some (.inr (some 60)), some (.inl x1)] [.inl (σ 61 j1)] σ _
    refine e_push q_124 rfl ?_
    refine e_icmp (P := ¬ (σ 61 j1) = 2) q_124 rfl m_c1 (fun c => ?_) (fun c => ?_)
    · replace h := h.1 c
      refine e_push q_124 rfl ?_
      refine e_zreturn q_124 rfl rfl (by decide) ?_
      show Ev S (d + 2) 172 10 [some (.inr (some 60)), some (.inl x1), some (.inl x2), some (.inl x3), some (.inl x4)] [.inl 0] σ _
      refine e_if (P := (0 : Int32) = 0) q_172 rfl m_c0 (fun _ => ?_) (fun c => absurd (by decide) c)
      refine e_load q_172 rfl rfl rfl ?_
      refine e_load q_172 rfl rfl rfl ?_
      refine e_load q_172 rfl rfl rfl ?_
      refine e_push q_172 rfl ?_
      refine e_virt q_172 rfl rfl (Nat.le_of_ble_eq_true rfl) rfl rfl (Nat.le_of_ble_eq_true rfl) rfl ?_
      show Ev S (d + 1) 122 0 [some (.inr (some 60)), some (.inl x1), some (.inl 6)] [] σ _
      refine e_load q_122 rfl rfl rfl ?_
      refine e_getR q_122 rfl rfl rfl ?_
      refine e_push q_122 rfl ?_
      refine e_push q_122 rfl ?_
      refine e_load q_122 rfl rfl rfl ?_
      refine e_bin (r := 9 * x1) q_122 rfl rfl ?_
      refine e_bin (r := 1 + (9 * x1)) q_122 rfl rfl ?_
      refine e_load q_122 rfl rfl rfl ?_
      refine e_bin (r := (1 + (9 * x1)) + 6) q_122 rfl rfl ?_
      obtain ⟨j2, hjj2, hlj2, h⟩ := h
      refine e_iald q_122 rfl rfl (by decide) hjj2 hlj2 ?_
      refine e_ireturn q_122 rfl rfl ?_
      show Ev S (d + 2) 172 27 [some (.inr (some 60)), some (.inl x1), some (.inl x2), some (.inl x3), some (.inl x4)] [.inl (σ 61 j2), .inl x3] σ _
      refine e_load q_172 rfl rfl rfl ?_
      refine e_icmp (P := ¬ (σ 61 j2) = x4) q_172 rfl m_c1 (fun c => ?_) (fun c => ?_)
      · replace h := h.1 c
        refine e_push q_172 rfl ?_
        refine e_bin (r := x3 + 0) q_172 rfl rfl ?_
        refine e_store (ls' := [some (.inr (some 60)), some (.inl x1), some (.inl x2), some (.inl (x3 + 0)), some (.inl x4)]) q_172 rfl (Nat.le_of_ble_eq_true rfl) rfl rfl ?_
        refine e_load q_172 rfl rfl rfl ?_
        refine e_load q_172 rfl rfl rfl ?_
        refine e_load q_172 rfl rfl rfl ?_
        refine e_push q_172 rfl ?_
        refine e_virt q_172 rfl rfl (Nat.le_of_ble_eq_true rfl) rfl rfl (Nat.le_of_ble_eq_true rfl) rfl ?_
        show Ev S (d + 1) 122 0 [some (.inr (some 60)), some (.inl x1), some (.inl 7)] [] σ _
        refine e_load q_122 rfl rfl rfl ?_
        refine e_getR q_122 rfl rfl rfl ?_
        refine e_push q_122 rfl ?_
        refine e_push q_122 rfl ?_
        refine e_load q_122 rfl rfl rfl ?_
        refine e_bin (r := 9 * x1) q_122 rfl rfl ?_
        refine e_bin (r := 1 + (9 * x1)) q_122 rfl rfl ?_
        refine e_load q_122 rfl rfl rfl ?_
        refine e_bin (r := (1 + (9 * x1)) + 7) q_122 rfl rfl ?_
        obtain ⟨j3, hjj3, hlj3, h⟩ := h
        refine e_iald q_122 rfl rfl (by decide) hjj3 hlj3 ?_
        refine e_ireturn q_122 rfl rfl ?_
        show Ev S (d + 2) 172 42 [some (.inr (some 60)), some (.inl x1), some (.inl x2), some (.inl (x3 + 0)), some (.inl x4)] [.inl (σ 61 j3), .inl (x3 + 0)] σ _
        refine e_load q_172 rfl rfl rfl ?_
        refine e_icmp (P := ¬ (σ 61 j3) = x4) q_172 rfl m_c1 (fun c => ?_) (fun c => ?_)
        · replace h := h.1 c
          refine e_push q_172 rfl ?_
          refine e_bin (r := (x3 + 0) + 0) q_172 rfl rfl ?_
          refine e_store (ls' := [some (.inr (some 60)), some (.inl x1), some (.inl x2), some (.inl ((x3 + 0) + 0)), some (.inl x4)]) q_172 rfl (Nat.le_of_ble_eq_true rfl) rfl rfl ?_
          refine e_iinc (ls' := [some (.inr (some 60)), some (.inl x1), some (.inl x2), some (.inl ((x3 + 0) + 0)), some (.inl (x4 + 1))]) q_172 rfl rfl rfl ?_
          refine e_goto q_172 rfl ?_
          exact h
        · replace h := h.2 c
          refine e_push q_172 rfl ?_
          refine e_goto q_172 rfl ?_
          refine e_bin (r := (x3 + 0) + 1) q_172 rfl rfl ?_
          refine e_store (ls' := [some (.inr (some 60)), some (.inl x1), some (.inl x2), some (.inl ((x3 + 0) + 1)), some (.inl x4)]) q_172 rfl (Nat.le_of_ble_eq_true rfl) rfl rfl ?_
          refine e_iinc (ls' := [some (.inr (some 60)), some (.inl x1), some (.inl x2), some (.inl ((x3 + 0) + 1)), some (.inl (x4 + 1))]) q_172 rfl rfl rfl ?_
          refine e_goto q_172 rfl ?_
          exact h
      · replace h := h.2 c
        refine e_load q_172 rfl rfl rfl ?_
        refine e_load q_172 rfl rfl rfl ?_
        refine e_push q_172 rfl ?_
        refine e_virt q_172 rfl rfl (Nat.le_of_ble_eq_true rfl) rfl rfl (Nat.le_of_ble_eq_true rfl) rfl ?_
        show Ev S (d + 1) 122 0 [some (.inr (some 60)), some (.inl x1), some (.inl 1)] [] σ _
        refine e_load q_122 rfl rfl rfl ?_
        refine e_getR q_122 rfl rfl rfl ?_
        refine e_push q_122 rfl ?_
        refine e_push q_122 rfl ?_
        refine e_load q_122 rfl rfl rfl ?_
        refine e_bin (r := 9 * x1) q_122 rfl rfl ?_
        refine e_bin (r := 1 + (9 * x1)) q_122 rfl rfl ?_
        refine e_load q_122 rfl rfl rfl ?_
        refine e_bin (r := (1 + (9 * x1)) + 1) q_122 rfl rfl ?_
        obtain ⟨j4, hjj4, hlj4, h⟩ := h
        refine e_iald q_122 rfl rfl (by decide) hjj4 hlj4 ?_
        refine e_ireturn q_122 rfl rfl ?_
        show Ev S (d + 2) 172 33 [some (.inr (some 60)), some (.inl x1), some (.inl x2), some (.inl x3), some (.inl x4)] [.inl (σ 61 j4), .inl x3] σ _
        refine e_goto q_172 rfl ?_
        refine e_bin (r := x3 + (σ 61 j4)) q_172 rfl rfl ?_
        refine e_store (ls' := [some (.inr (some 60)), some (.inl x1), some (.inl x2), some (.inl (x3 + (σ 61 j4))), some (.inl x4)]) q_172 rfl (Nat.le_of_ble_eq_true rfl) rfl rfl ?_
        refine e_load q_172 rfl rfl rfl ?_
        refine e_load q_172 rfl rfl rfl ?_
        refine e_load q_172 rfl rfl rfl ?_
        refine e_push q_172 rfl ?_
        refine e_virt q_172 rfl rfl (Nat.le_of_ble_eq_true rfl) rfl rfl (Nat.le_of_ble_eq_true rfl) rfl ?_
        show Ev S (d + 1) 122 0 [some (.inr (some 60)), some (.inl x1), some (.inl 7)] [] σ _
        refine e_load q_122 rfl rfl rfl ?_
        refine e_getR q_122 rfl rfl rfl ?_
        refine e_push q_122 rfl ?_
        refine e_push q_122 rfl ?_
        refine e_load q_122 rfl rfl rfl ?_
        refine e_bin (r := 9 * x1) q_122 rfl rfl ?_
        refine e_bin (r := 1 + (9 * x1)) q_122 rfl rfl ?_
        refine e_load q_122 rfl rfl rfl ?_
        refine e_bin (r := (1 + (9 * x1)) + 7) q_122 rfl rfl ?_
        obtain ⟨j5, hjj5, hlj5, h⟩ := h
        refine e_iald q_122 rfl rfl (by decide) hjj5 hlj5 ?_
        refine e_ireturn q_122 rfl rfl ?_
        show Ev S (d + 2) 172 42 [some (.inr (some 60)), some (.inl x1), some (.inl x2), some (.inl (x3 + (σ 61 j4))), some (.inl x4)] [.inl (σ 61 j5), .inl (x3 + (σ 61 j4))] σ _
        refine e_load q_172 rfl rfl rfl ?_
        refine e_icmp (P := ¬ (σ 61 j5) = x4) q_172 rfl m_c1 (fun c => ?_) (fun c => ?_)
        · replace h := h.1 c
          refine e_push q_172 rfl ?_
          refine e_bin (r := (x3 + (σ 61 j4)) + 0) q_172 rfl rfl ?_
          refine e_store (ls' := [some (.inr (some 60)), some (.inl x1), some (.inl x2), some (.inl ((x3 + (σ 61 j4)) + 0)), some (.inl x4)]) q_172 rfl (Nat.le_of_ble_eq_true rfl) rfl rfl ?_
          refine e_iinc (ls' := [some (.inr (some 60)), some (.inl x1), some (.inl x2), some (.inl ((x3 + (σ 61 j4)) + 0)), some (.inl (x4 + 1))]) q_172 rfl rfl rfl ?_
          refine e_goto q_172 rfl ?_
          exact h
        · replace h := h.2 c
          refine e_push q_172 rfl ?_
          refine e_goto q_172 rfl ?_
          refine e_bin (r := (x3 + (σ 61 j4)) + 1) q_172 rfl rfl ?_
          refine e_store (ls' := [some (.inr (some 60)), some (.inl x1), some (.inl x2), some (.inl ((x3 + (σ 61 j4)) + 1)), some (.inl x4)]) q_172 rfl (Nat.le_of_ble_eq_true rfl) rfl rfl ?_
          refine e_iinc (ls' := [some (.inr (some 60)), some (.inl x1), some (.inl x2), some (.inl ((x3 + (σ 61 j4)) + 1)), some (.inl (x4 + 1))]) q_172 rfl rfl rfl ?_
          refine e_goto q_172 rfl ?_
          exact h
    · replace h := h.2 c
      refine e_push q_124 rfl ?_
      refine e_goto q_124 rfl ?_
      refine e_zreturn q_124 rfl rfl (by decide) ?_
      show Ev S (d + 2) 172 10 [some (.inr (some 60)), some (.inl x1), some (.inl x2), some (.inl x3), some (.inl x4)] [.inl 1] σ _
      refine e_if (P := (1 : Int32) = 0) q_172 rfl m_c0 (fun c => absurd c (by decide)) (fun _ => ?_)
      refine e_load q_172 rfl rfl rfl ?_
      refine e_load q_172 rfl rfl rfl ?_
      refine e_load q_172 rfl rfl rfl ?_
      refine e_virt q_172 rfl rfl (Nat.le_of_ble_eq_true rfl) rfl rfl (Nat.le_of_ble_eq_true rfl) rfl ?_
      show Ev S (d + 1) 125 0 [some (.inr (some 60)), some (.inl x4)] [] σ _
      refine e_load q_125 rfl rfl rfl ?_
      refine e_getR q_125 rfl rfl rfl ?_
      refine e_push q_125 rfl ?_
      refine e_load q_125 rfl rfl rfl ?_
      refine e_bin (r := 79 + x4) q_125 rfl rfl ?_
      obtain ⟨j6, hjj6, hlj6, h⟩ := h
      refine e_iald q_125 rfl rfl (by decide) hjj6 hlj6 ?_
      refine e_push q_125 rfl ?_
      refine e_icmp (P := ¬ (σ 61 j6) = 1) q_125 rfl m_c1 (fun c => ?_) (fun c => ?_)
      · replace h := h.1 c
        refine e_push q_125 rfl ?_
        refine e_zreturn q_125 rfl rfl (by decide) ?_
        show Ev S (d + 2) 172 15 [some (.inr (some 60)), some (.inl x1), some (.inl x2), some (.inl x3), some (.inl x4)] [.inl 0, .inl x3] σ _
        refine e_if (P := (0 : Int32) = 0) q_172 rfl m_c0 (fun _ => ?_) (fun c => absurd (by decide) c)
        refine e_push q_172 rfl ?_
        refine e_bin (r := x3 + 1) q_172 rfl rfl ?_
        refine e_store (ls' := [some (.inr (some 60)), some (.inl x1), some (.inl x2), some (.inl (x3 + 1)), some (.inl x4)]) q_172 rfl (Nat.le_of_ble_eq_true rfl) rfl rfl ?_
        refine e_goto q_172 rfl ?_
        refine e_iinc (ls' := [some (.inr (some 60)), some (.inl x1), some (.inl x2), some (.inl (x3 + 1)), some (.inl (x4 + 1))]) q_172 rfl rfl rfl ?_
        refine e_goto q_172 rfl ?_
        exact h
      · replace h := h.2 c
        refine e_push q_125 rfl ?_
        refine e_goto q_125 rfl ?_
        refine e_zreturn q_125 rfl rfl (by decide) ?_
        show Ev S (d + 2) 172 15 [some (.inr (some 60)), some (.inl x1), some (.inl x2), some (.inl x3), some (.inl x4)] [.inl 1, .inl x3] σ _
        refine e_if (P := (1 : Int32) = 0) q_172 rfl m_c0 (fun c => absurd c (by decide)) (fun _ => ?_)
        refine e_push q_172 rfl ?_
        refine e_goto q_172 rfl ?_
        refine e_bin (r := x3 + 0) q_172 rfl rfl ?_
        refine e_store (ls' := [some (.inr (some 60)), some (.inl x1), some (.inl x2), some (.inl (x3 + 0)), some (.inl x4)]) q_172 rfl (Nat.le_of_ble_eq_true rfl) rfl rfl ?_
        refine e_goto q_172 rfl ?_
        refine e_iinc (ls' := [some (.inr (some 60)), some (.inl x1), some (.inl x2), some (.inl (x3 + 0)), some (.inl (x4 + 1))]) q_172 rfl rfl rfl ?_
        refine e_goto q_172 rfl ?_
        exact h
theorem g_173_0 {S : Nat × (Nat → Int32)} {d : Nat} {σ : Mem} {Q : MQ1} {x1 : Int32} {x2 : Int32}  (h : ((x1 < 0 → Q [.inl (-100001)] (up σ 60 6 ((σ 60 6) + 1))) ∧ (¬ (x1 < 0) → (((σ 61 0) ≤ x1 → Q [.inl (-100001)] (up σ 60 6 ((σ 60 6) + 1))) ∧ (¬ ((σ 61 0) ≤ x1) → ((x2 < 0 → Q [.inl (-100001)] (up σ 60 6 ((σ 60 6) + 1))) ∧ (¬ (x2 < 0) → ((5 < x2 → Q [.inl (-100001)] (up σ 60 6 ((σ 60 6) + 1))) ∧ (¬ (5 < x2) → Ec S (d + 2) 172 [.inr (some 60), .inl x1, .inl x2] σ (fun rv σ' => Ev S (d + 3) 173 11 [some (.inr (some 60)), some (.inl x1), some (.inl x2)] (rv ++ []) σ' Q)))))))))) : Ev S (d + 3) 173 0 [some (.inr (some 60)), some (.inl x1), some (.inl x2)] [] σ Q := by
  refine e_load q_173 rfl rfl rfl ?_
  refine e_load q_173 rfl rfl rfl ?_
  refine e_virt q_173 rfl rfl (Nat.le_of_ble_eq_true rfl) rfl rfl (Nat.le_of_ble_eq_true rfl) rfl ?_
  show Ev S (d + 2) 120 0 [some (.inr (some 60)), some (.inl x1)] [] σ _
  refine e_load q_120 rfl rfl rfl ?_
  refine e_if (P := x1 < 0) q_120 rfl m_c2 (fun c => ?_) (fun c => ?_)
  · replace h := h.1 c
    refine e_push q_120 rfl ?_
    refine e_zreturn q_120 rfl rfl (by decide) ?_
    show Ev S (d + 3) 173 3 [some (.inr (some 60)), some (.inl x1), some (.inl x2)] [.inl 0] σ _
    refine e_if (P := (0 : Int32) = 0) q_173 rfl m_c0 (fun _ => ?_) (fun c => absurd (by decide) c)
    refine e_load q_173 rfl rfl rfl ?_
    refine e_push q_173 rfl ?_
    refine e_virt q_173 rfl rfl (Nat.le_of_ble_eq_true rfl) rfl rfl (Nat.le_of_ble_eq_true rfl) rfl ?_
    show Ev S (d + 2) 118 0 [some (.inr (some 60)), some (.inl (-100001))] [] σ _
    refine e_load q_118 rfl rfl rfl ?_
    refine e_dup q_118 rfl ?_
    refine e_getI q_118 rfl rfl rfl ?_
    refine e_push q_118 rfl ?_
    refine e_bin (r := (σ 60 6) + 1) q_118 rfl rfl ?_
    refine e_putI q_118 rfl rfl rfl ?_
    refine e_load q_118 rfl rfl rfl ?_
    refine e_ireturn q_118 rfl rfl ?_
    show Ev S (d + 3) 173 15 [some (.inr (some 60)), some (.inl x1), some (.inl x2)] [.inl (-100001)] (up σ 60 6 ((σ 60 6) + 1)) _
    exact e_ireturn q_173 rfl rfl h
  · replace h := h.2 c
    refine e_load q_120 rfl rfl rfl ?_
    refine e_load q_120 rfl rfl rfl ?_
    refine e_getR q_120 rfl rfl rfl ?_
    refine e_push q_120 rfl ?_
    refine e_iald (j := 0) q_120 rfl rfl (by decide) (by decide +kernel) (by decide) ?_
    refine e_icmp (P := (σ 61 0) ≤ x1) q_120 rfl m_c3 (fun c => ?_) (fun c => ?_)
    · replace h := h.1 c
      refine e_push q_120 rfl ?_
      refine e_zreturn q_120 rfl rfl (by decide) ?_
      show Ev S (d + 3) 173 3 [some (.inr (some 60)), some (.inl x1), some (.inl x2)] [.inl 0] σ _
      refine e_if (P := (0 : Int32) = 0) q_173 rfl m_c0 (fun _ => ?_) (fun c => absurd (by decide) c)
      refine e_load q_173 rfl rfl rfl ?_
      refine e_push q_173 rfl ?_
      refine e_virt q_173 rfl rfl (Nat.le_of_ble_eq_true rfl) rfl rfl (Nat.le_of_ble_eq_true rfl) rfl ?_
      show Ev S (d + 2) 118 0 [some (.inr (some 60)), some (.inl (-100001))] [] σ _
      refine e_load q_118 rfl rfl rfl ?_
      refine e_dup q_118 rfl ?_
      refine e_getI q_118 rfl rfl rfl ?_
      refine e_push q_118 rfl ?_
      refine e_bin (r := (σ 60 6) + 1) q_118 rfl rfl ?_
      refine e_putI q_118 rfl rfl rfl ?_
      refine e_load q_118 rfl rfl rfl ?_
      refine e_ireturn q_118 rfl rfl ?_
      show Ev S (d + 3) 173 15 [some (.inr (some 60)), some (.inl x1), some (.inl x2)] [.inl (-100001)] (up σ 60 6 ((σ 60 6) + 1)) _
      exact e_ireturn q_173 rfl rfl h
    · replace h := h.2 c
      refine e_push q_120 rfl ?_
      refine e_goto q_120 rfl ?_
      refine e_zreturn q_120 rfl rfl (by decide) ?_
      show Ev S (d + 3) 173 3 [some (.inr (some 60)), some (.inl x1), some (.inl x2)] [.inl 1] σ _
      refine e_if (P := (1 : Int32) = 0) q_173 rfl m_c0 (fun c => absurd c (by decide)) (fun _ => ?_)
      refine e_load q_173 rfl rfl rfl ?_
      refine e_stat q_173 rfl (Nat.le_of_ble_eq_true rfl) rfl rfl (Nat.le_of_ble_eq_true rfl) ?_
      show Ev S (d + 2) 121 0 [some (.inl x2)] [] σ _
      refine e_load q_121 rfl rfl rfl ?_
      refine e_push q_121 rfl ?_
      refine e_push q_121 rfl ?_
      refine e_stat q_121 rfl (Nat.le_of_ble_eq_true rfl) rfl rfl (Nat.le_of_ble_eq_true rfl) ?_
      show Ev S (d + 1) 119 0 [some (.inl x2), some (.inl 0), some (.inl 5)] [] σ _
      refine e_load q_119 rfl rfl rfl ?_
      refine e_load q_119 rfl rfl rfl ?_
      refine e_icmp (P := x2 < 0) q_119 rfl m_c2 (fun c => ?_) (fun c => ?_)
      · replace h := h.1 c
        refine e_push q_119 rfl ?_
        refine e_zreturn q_119 rfl rfl (by decide) ?_
        show Ev S (d + 2) 121 4 [some (.inl x2)] [.inl 0] σ _
        refine e_zreturn q_121 rfl rfl (by decide) ?_
        show Ev S (d + 3) 173 6 [some (.inr (some 60)), some (.inl x1), some (.inl x2)] [.inl 0] σ _
        refine e_if (P := (0 : Int32) = 0) q_173 rfl m_c0 (fun _ => ?_) (fun c => absurd (by decide) c)
        refine e_load q_173 rfl rfl rfl ?_
        refine e_push q_173 rfl ?_
        refine e_virt q_173 rfl rfl (Nat.le_of_ble_eq_true rfl) rfl rfl (Nat.le_of_ble_eq_true rfl) rfl ?_
        show Ev S (d + 2) 118 0 [some (.inr (some 60)), some (.inl (-100001))] [] σ _
        refine e_load q_118 rfl rfl rfl ?_
        refine e_dup q_118 rfl ?_
        refine e_getI q_118 rfl rfl rfl ?_
        refine e_push q_118 rfl ?_
        refine e_bin (r := (σ 60 6) + 1) q_118 rfl rfl ?_
        refine e_putI q_118 rfl rfl rfl ?_
        refine e_load q_118 rfl rfl rfl ?_
        refine e_ireturn q_118 rfl rfl ?_
        show Ev S (d + 3) 173 15 [some (.inr (some 60)), some (.inl x1), some (.inl x2)] [.inl (-100001)] (up σ 60 6 ((σ 60 6) + 1)) _
        exact e_ireturn q_173 rfl rfl h
      · replace h := h.2 c
        refine e_load q_119 rfl rfl rfl ?_
        refine e_load q_119 rfl rfl rfl ?_
        refine e_icmp (P := 5 < x2) q_119 rfl m_c4 (fun c => ?_) (fun c => ?_)
        · replace h := h.1 c
          refine e_push q_119 rfl ?_
          refine e_zreturn q_119 rfl rfl (by decide) ?_
          show Ev S (d + 2) 121 4 [some (.inl x2)] [.inl 0] σ _
          refine e_zreturn q_121 rfl rfl (by decide) ?_
          show Ev S (d + 3) 173 6 [some (.inr (some 60)), some (.inl x1), some (.inl x2)] [.inl 0] σ _
          refine e_if (P := (0 : Int32) = 0) q_173 rfl m_c0 (fun _ => ?_) (fun c => absurd (by decide) c)
          refine e_load q_173 rfl rfl rfl ?_
          refine e_push q_173 rfl ?_
          refine e_virt q_173 rfl rfl (Nat.le_of_ble_eq_true rfl) rfl rfl (Nat.le_of_ble_eq_true rfl) rfl ?_
          show Ev S (d + 2) 118 0 [some (.inr (some 60)), some (.inl (-100001))] [] σ _
          refine e_load q_118 rfl rfl rfl ?_
          refine e_dup q_118 rfl ?_
          refine e_getI q_118 rfl rfl rfl ?_
          refine e_push q_118 rfl ?_
          refine e_bin (r := (σ 60 6) + 1) q_118 rfl rfl ?_
          refine e_putI q_118 rfl rfl rfl ?_
          refine e_load q_118 rfl rfl rfl ?_
          refine e_ireturn q_118 rfl rfl ?_
          show Ev S (d + 3) 173 15 [some (.inr (some 60)), some (.inl x1), some (.inl x2)] [.inl (-100001)] (up σ 60 6 ((σ 60 6) + 1)) _
          exact e_ireturn q_173 rfl rfl h
        · replace h := h.2 c
          refine e_push q_119 rfl ?_
          refine e_goto q_119 rfl ?_
          refine e_zreturn q_119 rfl rfl (by decide) ?_
          show Ev S (d + 2) 121 4 [some (.inl x2)] [.inl 1] σ _
          refine e_zreturn q_121 rfl rfl (by decide) ?_
          show Ev S (d + 3) 173 6 [some (.inr (some 60)), some (.inl x1), some (.inl x2)] [.inl 1] σ _
          refine e_if (P := (1 : Int32) = 0) q_173 rfl m_c0 (fun c => absurd c (by decide)) (fun _ => ?_)
          refine e_load q_173 rfl rfl rfl ?_
          refine e_load q_173 rfl rfl rfl ?_
          refine e_load q_173 rfl rfl rfl ?_
          exact e_virt q_173 rfl rfl (Nat.le_of_ble_eq_true rfl) rfl rfl (Nat.le_of_ble_eq_true rfl) rfl h
theorem g_173_11 {S : Nat × (Nat → Int32)} {d : Nat} {σ : Mem} {Q : MQ1} {o0 : Option MV} {o1 : Option MV} {o2 : Option MV} {y0 : Int32}  (h : Q [.inl y0] σ) : Ev S (d + 3) 173 11 [o0, o1, o2] [.inl y0] σ Q := by
  refine e_goto q_173 rfl ?_
  exact e_ireturn q_173 rfl rfl h
theorem g_174_0 {S : Nat × (Nat → Int32)} {d : Nat} {σ : Mem} {Q : MQ1} {x1 : Int32}  (h : ((x1 < 0 → Q [.inl (-100001)] (up σ 60 6 ((σ 60 6) + 1))) ∧ (¬ (x1 < 0) → ((5 < x1 → Q [.inl (-100001)] (up σ 60 6 ((σ 60 6) + 1))) ∧ (¬ (5 < x1) → Ev S (d + 3) 174 11 [some (.inr (some 60)), some (.inl x1), some (.inl 0), some (.inl 0), none] [] σ Q))))) : Ev S (d + 3) 174 0 [some (.inr (some 60)), some (.inl x1), none, none, none] [] σ Q := by
  refine e_load q_174 rfl rfl rfl ?_
  refine e_stat q_174 rfl (Nat.le_of_ble_eq_true rfl) rfl rfl (Nat.le_of_ble_eq_true rfl) ?_
  show Ev S (d + 2) 121 0 [some (.inl x1)] [] σ _
  refine e_load q_121 rfl rfl rfl ?_
  refine e_push q_121 rfl ?_
  refine e_push q_121 rfl ?_
  refine e_stat q_121 rfl (Nat.le_of_ble_eq_true rfl) rfl rfl (Nat.le_of_ble_eq_true rfl) ?_
  show Ev S (d + 1) 119 0 [some (.inl x1), some (.inl 0), some (.inl 5)] [] σ _
  refine e_load q_119 rfl rfl rfl ?_
  refine e_load q_119 rfl rfl rfl ?_
  refine e_icmp (P := x1 < 0) q_119 rfl m_c2 (fun c => ?_) (fun c => ?_)
  · replace h := h.1 c
    refine e_push q_119 rfl ?_
    refine e_zreturn q_119 rfl rfl (by decide) ?_
    show Ev S (d + 2) 121 4 [some (.inl x1)] [.inl 0] σ _
    refine e_zreturn q_121 rfl rfl (by decide) ?_
    show Ev S (d + 3) 174 2 [some (.inr (some 60)), some (.inl x1), none, none, none] [.inl 0] σ _
    refine e_if (P := ¬ (0 : Int32) = 0) q_174 rfl m_c1 (fun c => absurd c (by decide)) (fun _ => ?_)
    refine e_load q_174 rfl rfl rfl ?_
    refine e_push q_174 rfl ?_
    refine e_virt q_174 rfl rfl (Nat.le_of_ble_eq_true rfl) rfl rfl (Nat.le_of_ble_eq_true rfl) rfl ?_
    show Ev S (d + 2) 118 0 [some (.inr (some 60)), some (.inl (-100001))] [] σ _
    refine e_load q_118 rfl rfl rfl ?_
    refine e_dup q_118 rfl ?_
    refine e_getI q_118 rfl rfl rfl ?_
    refine e_push q_118 rfl ?_
    refine e_bin (r := (σ 60 6) + 1) q_118 rfl rfl ?_
    refine e_putI q_118 rfl rfl rfl ?_
    refine e_load q_118 rfl rfl rfl ?_
    refine e_ireturn q_118 rfl rfl ?_
    show Ev S (d + 3) 174 6 [some (.inr (some 60)), some (.inl x1), none, none, none] [.inl (-100001)] (up σ 60 6 ((σ 60 6) + 1)) _
    exact e_ireturn q_174 rfl rfl h
  · replace h := h.2 c
    refine e_load q_119 rfl rfl rfl ?_
    refine e_load q_119 rfl rfl rfl ?_
    refine e_icmp (P := 5 < x1) q_119 rfl m_c4 (fun c => ?_) (fun c => ?_)
    · replace h := h.1 c
      refine e_push q_119 rfl ?_
      refine e_zreturn q_119 rfl rfl (by decide) ?_
      show Ev S (d + 2) 121 4 [some (.inl x1)] [.inl 0] σ _
      refine e_zreturn q_121 rfl rfl (by decide) ?_
      show Ev S (d + 3) 174 2 [some (.inr (some 60)), some (.inl x1), none, none, none] [.inl 0] σ _
      refine e_if (P := ¬ (0 : Int32) = 0) q_174 rfl m_c1 (fun c => absurd c (by decide)) (fun _ => ?_)
      refine e_load q_174 rfl rfl rfl ?_
      refine e_push q_174 rfl ?_
      refine e_virt q_174 rfl rfl (Nat.le_of_ble_eq_true rfl) rfl rfl (Nat.le_of_ble_eq_true rfl) rfl ?_
      show Ev S (d + 2) 118 0 [some (.inr (some 60)), some (.inl (-100001))] [] σ _
      refine e_load q_118 rfl rfl rfl ?_
      refine e_dup q_118 rfl ?_
      refine e_getI q_118 rfl rfl rfl ?_
      refine e_push q_118 rfl ?_
      refine e_bin (r := (σ 60 6) + 1) q_118 rfl rfl ?_
      refine e_putI q_118 rfl rfl rfl ?_
      refine e_load q_118 rfl rfl rfl ?_
      refine e_ireturn q_118 rfl rfl ?_
      show Ev S (d + 3) 174 6 [some (.inr (some 60)), some (.inl x1), none, none, none] [.inl (-100001)] (up σ 60 6 ((σ 60 6) + 1)) _
      exact e_ireturn q_174 rfl rfl h
    · replace h := h.2 c
      refine e_push q_119 rfl ?_
      refine e_goto q_119 rfl ?_
      refine e_zreturn q_119 rfl rfl (by decide) ?_
      show Ev S (d + 2) 121 4 [some (.inl x1)] [.inl 1] σ _
      refine e_zreturn q_121 rfl rfl (by decide) ?_
      show Ev S (d + 3) 174 2 [some (.inr (some 60)), some (.inl x1), none, none, none] [.inl 1] σ _
      refine e_if (P := ¬ (1 : Int32) = 0) q_174 rfl m_c1 (fun _ => ?_) (fun c => absurd (by decide) c)
      refine e_push q_174 rfl ?_
      refine e_store (ls' := [some (.inr (some 60)), some (.inl x1), some (.inl 0), none, none]) q_174 rfl (Nat.le_of_ble_eq_true rfl) rfl rfl ?_
      refine e_push q_174 rfl ?_
      refine e_store (ls' := [some (.inr (some 60)), some (.inl x1), some (.inl 0), some (.inl 0), none]) q_174 rfl (Nat.le_of_ble_eq_true rfl) rfl rfl ?_
      exact h
theorem g_174_11 {S : Nat × (Nat → Int32)} {d : Nat} {σ : Mem} {Q : MQ1} {x1 : Int32} {x2 : Int32} {x3 : Int32} {o4 : Option MV}  (h : (((σ 61 0) ≤ x3 → Q [.inl x2] σ) ∧ (¬ ((σ 61 0) ≤ x3) → Ec S (d + 2) 172 [.inr (some 60), .inl x3, .inl x1] σ (fun rv σ' => Ev S (d + 3) 174 21 [some (.inr (some 60)), some (.inl x1), some (.inl x2), some (.inl x3), o4] (rv ++ []) σ' Q)))) : Ev S (d + 3) 174 11 [some (.inr (some 60)), some (.inl x1), some (.inl x2), some (.inl x3), o4] [] σ Q := by
  refine e_load q_174 rfl rfl rfl ?_
  refine e_load q_174 rfl rfl rfl ?_
  refine e_getR q_174 rfl rfl rfl ?_
  refine e_push q_174 rfl ?_
  refine e_iald (j := 0) q_174 rfl rfl (by decide) (by decide +kernel) (by decide) ?_
  refine e_icmp (P := (σ 61 0) ≤ x3) q_174 rfl m_c3 (fun c => ?_) (fun c => ?_)
  · replace h := h.1 c
    refine e_load q_174 rfl rfl rfl ?_
    exact e_ireturn q_174 rfl rfl h
  · replace h := h.2 c
    refine e_load q_174 rfl rfl rfl ?_
    refine e_load q_174 rfl rfl rfl ?_
    refine e_load q_174 rfl rfl rfl ?_
    exact e_virt q_174 rfl rfl (Nat.le_of_ble_eq_true rfl) rfl rfl (Nat.le_of_ble_eq_true rfl) rfl h
theorem g_174_21 {S : Nat × (Nat → Int32)} {d : Nat} {σ : Mem} {Q : MQ1} {x1 : Int32} {x2 : Int32} {x3 : Int32} {o4 : Option MV} {y0 : Int32}  (h : (∃ j1 : Nat, (1 + (9 * x3)) + 8 = nI j1 ∧ j1 < 86 ∧ (((y0 - (σ 61 j1)) ≤ 0 → Ev S (d + 3) 174 11 [some (.inr (some 60)), some (.inl x1), some (.inl (x2 + 0)), some (.inl (x3 + 1)), some (.inl (y0 - (σ 61 j1)))] [] σ Q) ∧ (¬ ((y0 - (σ 61 j1)) ≤ 0) → Ev S (d + 3) 174 11 [some (.inr (some 60)), some (.inl x1), some (.inl (x2 + (y0 - (σ 61 j1)))), some (.inl (x3 + 1)), some (.inl (y0 - (σ 61 j1)))] [] σ Q)))) : Ev S (d + 3) 174 21 [some (.inr (some 60)), some (.inl x1), some (.inl x2), some (.inl x3), o4] [.inl y0] σ Q := by
  refine e_load q_174 rfl rfl rfl ?_
  refine e_load q_174 rfl rfl rfl ?_
  refine e_push q_174 rfl ?_
  refine e_virt q_174 rfl rfl (Nat.le_of_ble_eq_true rfl) rfl rfl (Nat.le_of_ble_eq_true rfl) rfl ?_
  show Ev S (d + 2) 122 0 [some (.inr (some 60)), some (.inl x3), some (.inl 8)] [] σ _
  refine e_load q_122 rfl rfl rfl ?_
  refine e_getR q_122 rfl rfl rfl ?_
  refine e_push q_122 rfl ?_
  refine e_push q_122 rfl ?_
  refine e_load q_122 rfl rfl rfl ?_
  refine e_bin (r := 9 * x3) q_122 rfl rfl ?_
  refine e_bin (r := 1 + (9 * x3)) q_122 rfl rfl ?_
  refine e_load q_122 rfl rfl rfl ?_
  refine e_bin (r := (1 + (9 * x3)) + 8) q_122 rfl rfl ?_
  obtain ⟨j1, hjj1, hlj1, h⟩ := h
  refine e_iald q_122 rfl rfl (by decide) hjj1 hlj1 ?_
  refine e_ireturn q_122 rfl rfl ?_
  show Ev S (d + 3) 174 25 [some (.inr (some 60)), some (.inl x1), some (.inl x2), some (.inl x3), o4] [.inl (σ 61 j1), .inl y0] σ _
  refine e_bin (r := y0 - (σ 61 j1)) q_174 rfl rfl ?_
  refine e_store (ls' := [some (.inr (some 60)), some (.inl x1), some (.inl x2), some (.inl x3), some (.inl (y0 - (σ 61 j1)))]) q_174 rfl (Nat.le_of_ble_eq_true rfl) rfl rfl ?_
  refine e_load q_174 rfl rfl rfl ?_
  refine e_load q_174 rfl rfl rfl ?_
  refine e_if (P := (y0 - (σ 61 j1)) ≤ 0) q_174 rfl m_c5 (fun c => ?_) (fun c => ?_)
  · replace h := h.1 c
    refine e_push q_174 rfl ?_
    refine e_bin (r := x2 + 0) q_174 rfl rfl ?_
    refine e_store (ls' := [some (.inr (some 60)), some (.inl x1), some (.inl (x2 + 0)), some (.inl x3), some (.inl (y0 - (σ 61 j1)))]) q_174 rfl (Nat.le_of_ble_eq_true rfl) rfl rfl ?_
    refine e_iinc (ls' := [some (.inr (some 60)), some (.inl x1), some (.inl (x2 + 0)), some (.inl (x3 + 1)), some (.inl (y0 - (σ 61 j1)))]) q_174 rfl rfl rfl ?_
    refine e_goto q_174 rfl ?_
    exact h
  · replace h := h.2 c
    refine e_load q_174 rfl rfl rfl ?_
    refine e_goto q_174 rfl ?_
    refine e_bin (r := x2 + (y0 - (σ 61 j1))) q_174 rfl rfl ?_
    refine e_store (ls' := [some (.inr (some 60)), some (.inl x1), some (.inl (x2 + (y0 - (σ 61 j1)))), some (.inl x3), some (.inl (y0 - (σ 61 j1)))]) q_174 rfl (Nat.le_of_ble_eq_true rfl) rfl rfl ?_
    refine e_iinc (ls' := [some (.inr (some 60)), some (.inl x1), some (.inl (x2 + (y0 - (σ 61 j1)))), some (.inl (x3 + 1)), some (.inl (y0 - (σ 61 j1)))]) q_174 rfl rfl rfl ?_
    refine e_goto q_174 rfl ?_
    exact h
theorem g_175_0 {S : Nat × (Nat → Int32)} {d : Nat} {σ : Mem} {Q : MQ1} {x1 : Int32}  (h : Ev S (d + 1) 175 4 [some (.inr (some 60)), some (.inl x1), some (.inl 0), some (.inl 0)] [] σ Q) : Ev S (d + 1) 175 0 [some (.inr (some 60)), some (.inl x1), none, none] [] σ Q := by
  refine e_push q_175 rfl ?_
  refine e_store (ls' := [some (.inr (some 60)), some (.inl x1), some (.inl 0), none]) q_175 rfl (Nat.le_of_ble_eq_true rfl) rfl rfl ?_
  refine e_push q_175 rfl ?_
  refine e_store (ls' := [some (.inr (some 60)), some (.inl x1), some (.inl 0), some (.inl 0)]) q_175 rfl (Nat.le_of_ble_eq_true rfl) rfl rfl ?_
  exact h
theorem g_175_4 {S : Nat × (Nat → Int32)} {d : Nat} {σ : Mem} {Q : MQ1} {x1 : Int32} {x2 : Int32} {x3 : Int32}  (h : ((6 ≤ x3 → ((x1 = 0 → Q [.inl (σ 61 0)] σ) ∧ (x1 = 1 → Q [.inl x2] σ) ∧ (x1 = 2 → Q [.inl (σ 61 85)] σ) ∧ (x1 = 3 → Q [.inl (σ 60 6)] σ) ∧ ((∀ j : Nat, j < 4 → ¬ x1 = 0 + nI j) → Q [.inl (-100001)] (up σ 60 6 ((σ 60 6) + 1))))) ∧ (¬ (6 ≤ x3) → (∃ j3 : Nat, 79 + x3 = nI j3 ∧ j3 < 86 ∧ (((¬ (σ 61 j3) = 1) → Ev S (d + 1) 175 4 [some (.inr (some 60)), some (.inl x1), some (.inl (x2 + 0)), some (.inl (x3 + 1))] [] σ Q) ∧ (¬ (¬ (σ 61 j3) = 1) → Ev S (d + 1) 175 4 [some (.inr (some 60)), some (.inl x1), some (.inl (x2 + 1)), some (.inl (x3 + 1))] [] σ Q)))))) : Ev S (d + 1) 175 4 [some (.inr (some 60)), some (.inl x1), some (.inl x2), some (.inl x3)] [] σ Q := by
  refine e_load q_175 rfl rfl rfl ?_
  refine e_push q_175 rfl ?_
  refine e_icmp (P := 6 ≤ x3) q_175 rfl m_c3 (fun c => ?_) (fun c => ?_)
  · replace h := h.1 c
    refine e_load q_175 rfl rfl rfl ?_
    refine e_switch q_175 rfl ?_
    rcases m_sw (x := x1) (t := 36) (lo := 0) (ts := [21, 26, 28, 33]) (by decide) (by decide) (by decide) with ⟨j, hj, hl, hx⟩ | ⟨hx, hn⟩
    · match j, hj, hl, hx with
      | 0, hj, hl, hx =>
        rw [show m_swt 36 0 [21, 26, 28, 33] (x1) = 21 from hx]
        replace h := h.1 (hj.trans (by decide +kernel))
        refine e_load q_175 rfl rfl rfl ?_
        refine e_getR q_175 rfl rfl rfl ?_
        refine e_push q_175 rfl ?_
        refine e_iald (j := 0) q_175 rfl rfl (by decide) (by decide +kernel) (by decide) ?_
        exact e_ireturn q_175 rfl rfl h
      | 1, hj, hl, hx =>
        rw [show m_swt 36 0 [21, 26, 28, 33] (x1) = 26 from hx]
        replace h := h.2.1 (hj.trans (by decide +kernel))
        refine e_load q_175 rfl rfl rfl ?_
        exact e_ireturn q_175 rfl rfl h
      | 2, hj, hl, hx =>
        rw [show m_swt 36 0 [21, 26, 28, 33] (x1) = 28 from hx]
        replace h := h.2.2.1 (hj.trans (by decide +kernel))
        refine e_load q_175 rfl rfl rfl ?_
        refine e_getR q_175 rfl rfl rfl ?_
        refine e_push q_175 rfl ?_
        refine e_iald (j := 85) q_175 rfl rfl (by decide) (by decide +kernel) (by decide) ?_
        exact e_ireturn q_175 rfl rfl h
      | 3, hj, hl, hx =>
        rw [show m_swt 36 0 [21, 26, 28, 33] (x1) = 33 from hx]
        replace h := h.2.2.2.1 (hj.trans (by decide +kernel))
        refine e_load q_175 rfl rfl rfl ?_
        refine e_getI q_175 rfl rfl rfl ?_
        exact e_ireturn q_175 rfl rfl h
      | j + 4, hj, hl, hx => exact absurd hl (show ¬ j + 4 < 4 by omega)
    · rw [hx]
      replace h := h.2.2.2.2 hn
      refine e_load q_175 rfl rfl rfl ?_
      refine e_push q_175 rfl ?_
      refine e_virt q_175 rfl rfl (Nat.le_of_ble_eq_true rfl) rfl rfl (Nat.le_of_ble_eq_true rfl) rfl ?_
      show Ev S d 118 0 [some (.inr (some 60)), some (.inl (-100001))] [] σ _
      refine e_load q_118 rfl rfl rfl ?_
      refine e_dup q_118 rfl ?_
      refine e_getI q_118 rfl rfl rfl ?_
      refine e_push q_118 rfl ?_
      refine e_bin (r := (σ 60 6) + 1) q_118 rfl rfl ?_
      refine e_putI q_118 rfl rfl rfl ?_
      refine e_load q_118 rfl rfl rfl ?_
      refine e_ireturn q_118 rfl rfl ?_
      show Ev S (d + 1) 175 39 [some (.inr (some 60)), some (.inl x1), some (.inl x2), some (.inl x3)] [.inl (-100001)] (up σ 60 6 ((σ 60 6) + 1)) _
      exact e_ireturn q_175 rfl rfl h
  · replace h := h.2 c
    refine e_load q_175 rfl rfl rfl ?_
    refine e_load q_175 rfl rfl rfl ?_
    refine e_load q_175 rfl rfl rfl ?_
    refine e_virt q_175 rfl rfl (Nat.le_of_ble_eq_true rfl) rfl rfl (Nat.le_of_ble_eq_true rfl) rfl ?_
    show Ev S d 125 0 [some (.inr (some 60)), some (.inl x3)] [] σ _
    refine e_load q_125 rfl rfl rfl ?_
    refine e_getR q_125 rfl rfl rfl ?_
    refine e_push q_125 rfl ?_
    refine e_load q_125 rfl rfl rfl ?_
    refine e_bin (r := 79 + x3) q_125 rfl rfl ?_
    obtain ⟨j3, hjj3, hlj3, h⟩ := h
    refine e_iald q_125 rfl rfl (by decide) hjj3 hlj3 ?_
    refine e_push q_125 rfl ?_
    refine e_icmp (P := ¬ (σ 61 j3) = 1) q_125 rfl m_c1 (fun c => ?_) (fun c => ?_)
    · replace h := h.1 c
      refine e_push q_125 rfl ?_
      refine e_zreturn q_125 rfl rfl (by decide) ?_
      show Ev S (d + 1) 175 11 [some (.inr (some 60)), some (.inl x1), some (.inl x2), some (.inl x3)] [.inl 0, .inl x2] σ _
      refine e_if (P := (0 : Int32) = 0) q_175 rfl m_c0 (fun _ => ?_) (fun c => absurd (by decide) c)
      refine e_push q_175 rfl ?_
      refine e_bin (r := x2 + 0) q_175 rfl rfl ?_
      refine e_store (ls' := [some (.inr (some 60)), some (.inl x1), some (.inl (x2 + 0)), some (.inl x3)]) q_175 rfl (Nat.le_of_ble_eq_true rfl) rfl rfl ?_
      refine e_iinc (ls' := [some (.inr (some 60)), some (.inl x1), some (.inl (x2 + 0)), some (.inl (x3 + 1))]) q_175 rfl rfl rfl ?_
      refine e_goto q_175 rfl ?_
      exact h
    · replace h := h.2 c
      refine e_push q_125 rfl ?_
      refine e_goto q_125 rfl ?_
      refine e_zreturn q_125 rfl rfl (by decide) ?_
      show Ev S (d + 1) 175 11 [some (.inr (some 60)), some (.inl x1), some (.inl x2), some (.inl x3)] [.inl 1, .inl x2] σ _
      refine e_if (P := (1 : Int32) = 0) q_175 rfl m_c0 (fun c => absurd c (by decide)) (fun _ => ?_)
      refine e_push q_175 rfl ?_
      refine e_goto q_175 rfl ?_
      refine e_bin (r := x2 + 1) q_175 rfl rfl ?_
      refine e_store (ls' := [some (.inr (some 60)), some (.inl x1), some (.inl (x2 + 1)), some (.inl x3)]) q_175 rfl (Nat.le_of_ble_eq_true rfl) rfl rfl ?_
      refine e_iinc (ls' := [some (.inr (some 60)), some (.inl x1), some (.inl (x2 + 1)), some (.inl (x3 + 1))]) q_175 rfl rfl rfl ?_
      refine e_goto q_175 rfl ?_
      exact h
