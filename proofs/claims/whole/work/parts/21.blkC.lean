theorem g_75_0 {S : Nat × (Nat → Int32)} {d : Nat} {σ : Mem} {Q : MQ1} {x1 : Int32} {x2 : Int32}  (h : ((x1 < 0 → Q [.inl (-100001)] (up σ 0 5 ((σ 0 5) + 1))) ∧ (¬ (x1 < 0) → ((x1 ≤ 3 → ((x2 < 1 → Q [.inl (-100001)] (up σ 0 5 ((σ 0 5) + 1))) ∧ (¬ (x2 < 1) → ((x2 ≤ 9 → (((σ 2 80) < 8 → Ec S (d + 2) 26 [.inr (some 24), .inr (some 1)] σ (fun rv σ' => Ev S (d + 3) 75 27 [some (.inr (some 0)), some (.inl x1), some (.inl x2)] (rv ++ []) σ' Q)) ∧ (¬ ((σ 2 80) < 8) → Q [.inl (-100005)] (up σ 0 5 ((σ 0 5) + 1))))) ∧ (¬ (x2 ≤ 9) → Q [.inl (-100001)] (up σ 0 5 ((σ 0 5) + 1))))))) ∧ (¬ (x1 ≤ 3) → Q [.inl (-100001)] (up σ 0 5 ((σ 0 5) + 1))))))) : Ev S (d + 3) 75 0 [some (.inr (some 0)), some (.inl x1), some (.inl x2)] [] σ Q := by
  refine e_load q_75 rfl rfl rfl ?_
  refine e_stat q_75 rfl (Nat.le_of_ble_eq_true rfl) rfl rfl (Nat.le_of_ble_eq_true rfl) ?_
  show Ev S (d + 2) 107 0 [some (.inl x1)] [] σ _
  refine e_load q_107 rfl rfl rfl ?_
  refine e_if (P := x1 < 0) q_107 rfl m_c2 (fun c => ?_) (fun c => ?_)
  · replace h := h.1 c
    refine e_push q_107 rfl ?_
    refine e_goto q_107 rfl ?_
    refine e_zreturn q_107 rfl rfl (by decide) ?_
    show Ev S (d + 3) 75 2 [some (.inr (some 0)), some (.inl x1), some (.inl x2)] [.inl 1] σ _
    refine e_if (P := ¬ (1 : Int32) = 0) q_75 rfl m_c1 (fun _ => ?_) (fun c => absurd (by decide) c)
    refine e_load q_75 rfl rfl rfl ?_
    refine e_push q_75 rfl ?_
    refine e_virt q_75 rfl rfl (Nat.le_of_ble_eq_true rfl) rfl rfl (Nat.le_of_ble_eq_true rfl) rfl ?_
    show Ev S (d + 2) 105 0 [some (.inr (some 0)), some (.inl (-100001))] [] σ _
    refine e_load q_105 rfl rfl rfl ?_
    refine e_dup q_105 rfl ?_
    refine e_getI q_105 rfl rfl rfl ?_
    refine e_push q_105 rfl ?_
    refine e_bin (r := (σ 0 5) + 1) q_105 rfl rfl ?_
    refine e_putI q_105 rfl rfl rfl ?_
    refine e_load q_105 rfl rfl rfl ?_
    refine e_ireturn q_105 rfl rfl ?_
    show Ev S (d + 3) 75 12 [some (.inr (some 0)), some (.inl x1), some (.inl x2)] [.inl (-100001)] (up σ 0 5 ((σ 0 5) + 1)) _
    exact e_ireturn q_75 rfl rfl h
  · replace h := h.2 c
    refine e_load q_107 rfl rfl rfl ?_
    refine e_push q_107 rfl ?_
    refine e_icmp (P := x1 ≤ 3) q_107 rfl m_c5 (fun c => ?_) (fun c => ?_)
    · replace h := h.1 c
      refine e_push q_107 rfl ?_
      refine e_zreturn q_107 rfl rfl (by decide) ?_
      show Ev S (d + 3) 75 2 [some (.inr (some 0)), some (.inl x1), some (.inl x2)] [.inl 0] σ _
      refine e_if (P := ¬ (0 : Int32) = 0) q_75 rfl m_c1 (fun c => absurd c (by decide)) (fun _ => ?_)
      refine e_load q_75 rfl rfl rfl ?_
      refine e_push q_75 rfl ?_
      refine e_icmp (P := x2 < 1) q_75 rfl m_c2 (fun c => ?_) (fun c => ?_)
      · replace h := h.1 c
        refine e_load q_75 rfl rfl rfl ?_
        refine e_push q_75 rfl ?_
        refine e_virt q_75 rfl rfl (Nat.le_of_ble_eq_true rfl) rfl rfl (Nat.le_of_ble_eq_true rfl) rfl ?_
        show Ev S (d + 2) 105 0 [some (.inr (some 0)), some (.inl (-100001))] [] σ _
        refine e_load q_105 rfl rfl rfl ?_
        refine e_dup q_105 rfl ?_
        refine e_getI q_105 rfl rfl rfl ?_
        refine e_push q_105 rfl ?_
        refine e_bin (r := (σ 0 5) + 1) q_105 rfl rfl ?_
        refine e_putI q_105 rfl rfl rfl ?_
        refine e_load q_105 rfl rfl rfl ?_
        refine e_ireturn q_105 rfl rfl ?_
        show Ev S (d + 3) 75 12 [some (.inr (some 0)), some (.inl x1), some (.inl x2)] [.inl (-100001)] (up σ 0 5 ((σ 0 5) + 1)) _
        exact e_ireturn q_75 rfl rfl h
      · replace h := h.2 c
        refine e_load q_75 rfl rfl rfl ?_
        refine e_push q_75 rfl ?_
        refine e_icmp (P := x2 ≤ 9) q_75 rfl m_c5 (fun c => ?_) (fun c => ?_)
        · replace h := h.1 c
          refine e_load q_75 rfl rfl rfl ?_
          refine e_getR q_75 rfl rfl rfl ?_
          refine e_virt q_75 rfl rfl (Nat.le_of_ble_eq_true rfl) rfl rfl (Nat.le_of_ble_eq_true rfl) rfl ?_
          show Ev S (d + 2) 7 0 [some (.inr (some 1))] [] σ _
          refine e_load q_7 rfl rfl rfl ?_
          refine e_getR q_7 rfl rfl rfl ?_
          refine e_push q_7 rfl ?_
          refine e_iald (j := 80) q_7 rfl rfl (by decide) (by decide +kernel) (by decide) ?_
          refine e_ireturn q_7 rfl rfl ?_
          show Ev S (d + 3) 75 16 [some (.inr (some 0)), some (.inl x1), some (.inl x2)] [.inl (σ 2 80)] σ _
          refine e_push q_75 rfl ?_
          refine e_icmp (P := (σ 2 80) < 8) q_75 rfl m_c2 (fun c => ?_) (fun c => ?_)
          · replace h := h.1 c
            refine e_load q_75 rfl rfl rfl ?_
            refine e_getR q_75 rfl rfl rfl ?_
            refine e_load q_75 rfl rfl rfl ?_
            refine e_getR q_75 rfl rfl rfl ?_
            exact e_virt q_75 rfl rfl (Nat.le_of_ble_eq_true rfl) rfl rfl (Nat.le_of_ble_eq_true rfl) rfl h
          · replace h := h.2 c
            refine e_load q_75 rfl rfl rfl ?_
            refine e_push q_75 rfl ?_
            refine e_virt q_75 rfl rfl (Nat.le_of_ble_eq_true rfl) rfl rfl (Nat.le_of_ble_eq_true rfl) rfl ?_
            show Ev S (d + 2) 105 0 [some (.inr (some 0)), some (.inl (-100005))] [] σ _
            refine e_load q_105 rfl rfl rfl ?_
            refine e_dup q_105 rfl ?_
            refine e_getI q_105 rfl rfl rfl ?_
            refine e_push q_105 rfl ?_
            refine e_bin (r := (σ 0 5) + 1) q_105 rfl rfl ?_
            refine e_putI q_105 rfl rfl rfl ?_
            refine e_load q_105 rfl rfl rfl ?_
            refine e_ireturn q_105 rfl rfl ?_
            show Ev S (d + 3) 75 21 [some (.inr (some 0)), some (.inl x1), some (.inl x2)] [.inl (-100005)] (up σ 0 5 ((σ 0 5) + 1)) _
            exact e_ireturn q_75 rfl rfl h
        · replace h := h.2 c
          refine e_load q_75 rfl rfl rfl ?_
          refine e_push q_75 rfl ?_
          refine e_virt q_75 rfl rfl (Nat.le_of_ble_eq_true rfl) rfl rfl (Nat.le_of_ble_eq_true rfl) rfl ?_
          show Ev S (d + 2) 105 0 [some (.inr (some 0)), some (.inl (-100001))] [] σ _
          refine e_load q_105 rfl rfl rfl ?_
          refine e_dup q_105 rfl ?_
          refine e_getI q_105 rfl rfl rfl ?_
          refine e_push q_105 rfl ?_
          refine e_bin (r := (σ 0 5) + 1) q_105 rfl rfl ?_
          refine e_putI q_105 rfl rfl rfl ?_
          refine e_load q_105 rfl rfl rfl ?_
          refine e_ireturn q_105 rfl rfl ?_
          show Ev S (d + 3) 75 12 [some (.inr (some 0)), some (.inl x1), some (.inl x2)] [.inl (-100001)] (up σ 0 5 ((σ 0 5) + 1)) _
          exact e_ireturn q_75 rfl rfl h
    · replace h := h.2 c
      refine e_push q_107 rfl ?_
      refine e_goto q_107 rfl ?_
      refine e_zreturn q_107 rfl rfl (by decide) ?_
      show Ev S (d + 3) 75 2 [some (.inr (some 0)), some (.inl x1), some (.inl x2)] [.inl 1] σ _
      refine e_if (P := ¬ (1 : Int32) = 0) q_75 rfl m_c1 (fun _ => ?_) (fun c => absurd (by decide) c)
      refine e_load q_75 rfl rfl rfl ?_
      refine e_push q_75 rfl ?_
      refine e_virt q_75 rfl rfl (Nat.le_of_ble_eq_true rfl) rfl rfl (Nat.le_of_ble_eq_true rfl) rfl ?_
      show Ev S (d + 2) 105 0 [some (.inr (some 0)), some (.inl (-100001))] [] σ _
      refine e_load q_105 rfl rfl rfl ?_
      refine e_dup q_105 rfl ?_
      refine e_getI q_105 rfl rfl rfl ?_
      refine e_push q_105 rfl ?_
      refine e_bin (r := (σ 0 5) + 1) q_105 rfl rfl ?_
      refine e_putI q_105 rfl rfl rfl ?_
      refine e_load q_105 rfl rfl rfl ?_
      refine e_ireturn q_105 rfl rfl ?_
      show Ev S (d + 3) 75 12 [some (.inr (some 0)), some (.inl x1), some (.inl x2)] [.inl (-100001)] (up σ 0 5 ((σ 0 5) + 1)) _
      exact e_ireturn q_75 rfl rfl h
theorem g_75_27 {S : Nat × (Nat → Int32)} {d : Nat} {σ : Mem} {Q : MQ1} {x1 : Int32} {x2 : Int32}  (h : Ec S (d + 2) 10 [.inr (some 1), .inl x1, .inl x2] σ (fun rv σ' => Ev S (d + 3) 75 32 [some (.inr (some 0)), some (.inl x1), some (.inl x2)] (rv ++ []) σ' Q)) : Ev S (d + 3) 75 27 [some (.inr (some 0)), some (.inl x1), some (.inl x2)] [] σ Q := by
  refine e_load q_75 rfl rfl rfl ?_
  refine e_getR q_75 rfl rfl rfl ?_
  refine e_load q_75 rfl rfl rfl ?_
  refine e_load q_75 rfl rfl rfl ?_
  exact e_virt q_75 rfl rfl (Nat.le_of_ble_eq_true rfl) rfl rfl (Nat.le_of_ble_eq_true rfl) rfl h
theorem g_75_32 {S : Nat × (Nat → Int32)} {d : Nat} {σ : Mem} {Q : MQ1} {o0 : Option MV} {o1 : Option MV} {o2 : Option MV} {y0 : Int32}  (h : Q [.inl y0] σ) : Ev S (d + 3) 75 32 [o0, o1, o2] [.inl y0] σ Q := by
  exact e_ireturn q_75 rfl rfl h
theorem g_76_0 {S : Nat × (Nat → Int32)} {d : Nat} {σ : Mem} {Q : MQ1} {x1 : Int32} {x2 : Int32}  (h : ((x1 < 0 → Q [.inl (-100001)] (up σ 0 5 ((σ 0 5) + 1))) ∧ (¬ (x1 < 0) → ((x1 < (σ 2 80) → ((x2 < 0 → Q [.inl (-100001)] (up σ 0 5 ((σ 0 5) + 1))) ∧ (¬ (x2 < 0) → ((x2 ≤ 3 → (∃ j2 : Nat, (0 * 8) + x1 = nI j2 ∧ j2 < 81 ∧ ((x2 = 0 → Q [.inl x1] σ) ∧ (¬ (x2 = 0) → ((x2 = (σ 2 j2) → Q [.inl x1] σ) ∧ (¬ (x2 = (σ 2 j2)) → (((¬ x2 = 1) → Q [.inl (-100004)] (up σ 0 5 ((σ 0 5) + 1))) ∧ (¬ (¬ x2 = 1) → (((¬ (σ 2 j2) = 3) → Q [.inl (-100004)] (up σ 0 5 ((σ 0 5) + 1))) ∧ (¬ (¬ (σ 2 j2) = 3) → Q [.inl x1] σ)))))))))) ∧ (¬ (x2 ≤ 3) → Q [.inl (-100001)] (up σ 0 5 ((σ 0 5) + 1))))))) ∧ (¬ (x1 < (σ 2 80)) → Q [.inl (-100001)] (up σ 0 5 ((σ 0 5) + 1))))))) : Ev S (d + 2) 76 0 [some (.inr (some 0)), some (.inl x1), some (.inl x2)] [] σ Q := by
  refine e_load q_76 rfl rfl rfl ?_
  refine e_load q_76 rfl rfl rfl ?_
  refine e_virt q_76 rfl rfl (Nat.le_of_ble_eq_true rfl) rfl rfl (Nat.le_of_ble_eq_true rfl) rfl ?_
  show Ev S (d + 1) 106 0 [some (.inr (some 0)), some (.inl x1)] [] σ _
  refine e_load q_106 rfl rfl rfl ?_
  refine e_if (P := x1 < 0) q_106 rfl m_c2 (fun c => ?_) (fun c => ?_)
  · replace h := h.1 c
    refine e_push q_106 rfl ?_
    refine e_goto q_106 rfl ?_
    refine e_zreturn q_106 rfl rfl (by decide) ?_
    show Ev S (d + 2) 76 3 [some (.inr (some 0)), some (.inl x1), some (.inl x2)] [.inl 1] σ _
    refine e_if (P := ¬ (1 : Int32) = 0) q_76 rfl m_c1 (fun _ => ?_) (fun c => absurd (by decide) c)
    refine e_load q_76 rfl rfl rfl ?_
    refine e_push q_76 rfl ?_
    refine e_virt q_76 rfl rfl (Nat.le_of_ble_eq_true rfl) rfl rfl (Nat.le_of_ble_eq_true rfl) rfl ?_
    show Ev S (d + 1) 105 0 [some (.inr (some 0)), some (.inl (-100001))] [] σ _
    refine e_load q_105 rfl rfl rfl ?_
    refine e_dup q_105 rfl ?_
    refine e_getI q_105 rfl rfl rfl ?_
    refine e_push q_105 rfl ?_
    refine e_bin (r := (σ 0 5) + 1) q_105 rfl rfl ?_
    refine e_putI q_105 rfl rfl rfl ?_
    refine e_load q_105 rfl rfl rfl ?_
    refine e_ireturn q_105 rfl rfl ?_
    show Ev S (d + 2) 76 10 [some (.inr (some 0)), some (.inl x1), some (.inl x2)] [.inl (-100001)] (up σ 0 5 ((σ 0 5) + 1)) _
    exact e_ireturn q_76 rfl rfl h
  · replace h := h.2 c
    refine e_load q_106 rfl rfl rfl ?_
    refine e_load q_106 rfl rfl rfl ?_
    refine e_getR q_106 rfl rfl rfl ?_
    refine e_virt q_106 rfl rfl (Nat.le_of_ble_eq_true rfl) rfl rfl (Nat.le_of_ble_eq_true rfl) rfl ?_
    show Ev S d 7 0 [some (.inr (some 1))] [] σ _
    refine e_load q_7 rfl rfl rfl ?_
    refine e_getR q_7 rfl rfl rfl ?_
    refine e_push q_7 rfl ?_
    refine e_iald (j := 80) q_7 rfl rfl (by decide) (by decide +kernel) (by decide) ?_
    refine e_ireturn q_7 rfl rfl ?_
    show Ev S (d + 1) 106 6 [some (.inr (some 0)), some (.inl x1)] [.inl (σ 2 80), .inl x1] σ _
    refine e_icmp (P := x1 < (σ 2 80)) q_106 rfl m_c2 (fun c => ?_) (fun c => ?_)
    · replace h := h.1 c
      refine e_push q_106 rfl ?_
      refine e_zreturn q_106 rfl rfl (by decide) ?_
      show Ev S (d + 2) 76 3 [some (.inr (some 0)), some (.inl x1), some (.inl x2)] [.inl 0] σ _
      refine e_if (P := ¬ (0 : Int32) = 0) q_76 rfl m_c1 (fun c => absurd c (by decide)) (fun _ => ?_)
      refine e_load q_76 rfl rfl rfl ?_
      refine e_stat q_76 rfl (Nat.le_of_ble_eq_true rfl) rfl rfl (Nat.le_of_ble_eq_true rfl) ?_
      show Ev S (d + 1) 107 0 [some (.inl x2)] [] σ _
      refine e_load q_107 rfl rfl rfl ?_
      refine e_if (P := x2 < 0) q_107 rfl m_c2 (fun c => ?_) (fun c => ?_)
      · replace h := h.1 c
        refine e_push q_107 rfl ?_
        refine e_goto q_107 rfl ?_
        refine e_zreturn q_107 rfl rfl (by decide) ?_
        show Ev S (d + 2) 76 6 [some (.inr (some 0)), some (.inl x1), some (.inl x2)] [.inl 1] σ _
        refine e_if (P := (1 : Int32) = 0) q_76 rfl m_c0 (fun c => absurd c (by decide)) (fun _ => ?_)
        refine e_load q_76 rfl rfl rfl ?_
        refine e_push q_76 rfl ?_
        refine e_virt q_76 rfl rfl (Nat.le_of_ble_eq_true rfl) rfl rfl (Nat.le_of_ble_eq_true rfl) rfl ?_
        show Ev S (d + 1) 105 0 [some (.inr (some 0)), some (.inl (-100001))] [] σ _
        refine e_load q_105 rfl rfl rfl ?_
        refine e_dup q_105 rfl ?_
        refine e_getI q_105 rfl rfl rfl ?_
        refine e_push q_105 rfl ?_
        refine e_bin (r := (σ 0 5) + 1) q_105 rfl rfl ?_
        refine e_putI q_105 rfl rfl rfl ?_
        refine e_load q_105 rfl rfl rfl ?_
        refine e_ireturn q_105 rfl rfl ?_
        show Ev S (d + 2) 76 10 [some (.inr (some 0)), some (.inl x1), some (.inl x2)] [.inl (-100001)] (up σ 0 5 ((σ 0 5) + 1)) _
        exact e_ireturn q_76 rfl rfl h
      · replace h := h.2 c
        refine e_load q_107 rfl rfl rfl ?_
        refine e_push q_107 rfl ?_
        refine e_icmp (P := x2 ≤ 3) q_107 rfl m_c5 (fun c => ?_) (fun c => ?_)
        · replace h := h.1 c
          refine e_push q_107 rfl ?_
          refine e_zreturn q_107 rfl rfl (by decide) ?_
          show Ev S (d + 2) 76 6 [some (.inr (some 0)), some (.inl x1), some (.inl x2)] [.inl 0] σ _
          refine e_if (P := (0 : Int32) = 0) q_76 rfl m_c0 (fun _ => ?_) (fun c => absurd (by decide) c)
          refine e_load q_76 rfl rfl rfl ?_
          refine e_getR q_76 rfl rfl rfl ?_
          refine e_load q_76 rfl rfl rfl ?_
          refine e_load q_76 rfl rfl rfl ?_
          refine e_virt q_76 rfl rfl (Nat.le_of_ble_eq_true rfl) rfl rfl (Nat.le_of_ble_eq_true rfl) rfl ?_
          show Ev S (d + 1) 11 0 [some (.inr (some 1)), some (.inl x1), some (.inl x2), none] [] σ _
          refine e_load q_11 rfl rfl rfl ?_
          refine e_push q_11 rfl ?_
          refine e_load q_11 rfl rfl rfl ?_
          refine e_virt q_11 rfl rfl (Nat.le_of_ble_eq_true rfl) rfl rfl (Nat.le_of_ble_eq_true rfl) rfl ?_
          show Ev S d 8 0 [some (.inr (some 1)), some (.inl 0), some (.inl x1)] [] σ _
          refine e_load q_8 rfl rfl rfl ?_
          refine e_getR q_8 rfl rfl rfl ?_
          refine e_load q_8 rfl rfl rfl ?_
          refine e_push q_8 rfl ?_
          refine e_bin (r := 0 * 8) q_8 rfl rfl ?_
          refine e_load q_8 rfl rfl rfl ?_
          refine e_bin (r := (0 * 8) + x1) q_8 rfl rfl ?_
          obtain ⟨j2, hjj2, hlj2, h⟩ := h
          refine e_iald q_8 rfl rfl (by decide) hjj2 hlj2 ?_
          refine e_ireturn q_8 rfl rfl ?_
          show Ev S (d + 1) 11 4 [some (.inr (some 1)), some (.inl x1), some (.inl x2), none] [.inl (σ 2 j2)] σ _
          refine e_store (ls' := [some (.inr (some 1)), some (.inl x1), some (.inl x2), some (.inl (σ 2 j2))]) q_11 rfl (Nat.le_of_ble_eq_true rfl) rfl rfl ?_
          refine e_load q_11 rfl rfl rfl ?_
          refine e_if (P := x2 = 0) q_11 rfl m_c0 (fun c => ?_) (fun c => ?_)
          · replace h := h.1 c
            refine e_push q_11 rfl ?_
            refine e_goto q_11 rfl ?_
            refine e_zreturn q_11 rfl rfl (by decide) ?_
            show Ev S (d + 2) 76 16 [some (.inr (some 0)), some (.inl x1), some (.inl x2)] [.inl 1] σ _
            refine e_if (P := (1 : Int32) = 0) q_76 rfl m_c0 (fun c => absurd c (by decide)) (fun _ => ?_)
            refine e_load q_76 rfl rfl rfl ?_
            refine e_goto q_76 rfl ?_
            exact e_ireturn q_76 rfl rfl h
          · replace h := h.2 c
            refine e_load q_11 rfl rfl rfl ?_
            refine e_load q_11 rfl rfl rfl ?_
            refine e_icmp (P := x2 = (σ 2 j2)) q_11 rfl m_c0 (fun c => ?_) (fun c => ?_)
            · replace h := h.1 c
              refine e_push q_11 rfl ?_
              refine e_goto q_11 rfl ?_
              refine e_zreturn q_11 rfl rfl (by decide) ?_
              show Ev S (d + 2) 76 16 [some (.inr (some 0)), some (.inl x1), some (.inl x2)] [.inl 1] σ _
              refine e_if (P := (1 : Int32) = 0) q_76 rfl m_c0 (fun c => absurd c (by decide)) (fun _ => ?_)
              refine e_load q_76 rfl rfl rfl ?_
              refine e_goto q_76 rfl ?_
              exact e_ireturn q_76 rfl rfl h
            · replace h := h.2 c
              refine e_load q_11 rfl rfl rfl ?_
              refine e_push q_11 rfl ?_
              refine e_icmp (P := ¬ x2 = 1) q_11 rfl m_c1 (fun c => ?_) (fun c => ?_)
              · replace h := h.1 c
                refine e_push q_11 rfl ?_
                refine e_zreturn q_11 rfl rfl (by decide) ?_
                show Ev S (d + 2) 76 16 [some (.inr (some 0)), some (.inl x1), some (.inl x2)] [.inl 0] σ _
                refine e_if (P := (0 : Int32) = 0) q_76 rfl m_c0 (fun _ => ?_) (fun c => absurd (by decide) c)
                refine e_load q_76 rfl rfl rfl ?_
                refine e_push q_76 rfl ?_
                refine e_virt q_76 rfl rfl (Nat.le_of_ble_eq_true rfl) rfl rfl (Nat.le_of_ble_eq_true rfl) rfl ?_
                show Ev S (d + 1) 105 0 [some (.inr (some 0)), some (.inl (-100004))] [] σ _
                refine e_load q_105 rfl rfl rfl ?_
                refine e_dup q_105 rfl ?_
                refine e_getI q_105 rfl rfl rfl ?_
                refine e_push q_105 rfl ?_
                refine e_bin (r := (σ 0 5) + 1) q_105 rfl rfl ?_
                refine e_putI q_105 rfl rfl rfl ?_
                refine e_load q_105 rfl rfl rfl ?_
                refine e_ireturn q_105 rfl rfl ?_
                show Ev S (d + 2) 76 22 [some (.inr (some 0)), some (.inl x1), some (.inl x2)] [.inl (-100004)] (up σ 0 5 ((σ 0 5) + 1)) _
                exact e_ireturn q_76 rfl rfl h
              · replace h := h.2 c
                refine e_load q_11 rfl rfl rfl ?_
                refine e_push q_11 rfl ?_
                refine e_icmp (P := ¬ (σ 2 j2) = 3) q_11 rfl m_c1 (fun c => ?_) (fun c => ?_)
                · replace h := h.1 c
                  refine e_push q_11 rfl ?_
                  refine e_zreturn q_11 rfl rfl (by decide) ?_
                  show Ev S (d + 2) 76 16 [some (.inr (some 0)), some (.inl x1), some (.inl x2)] [.inl 0] σ _
                  refine e_if (P := (0 : Int32) = 0) q_76 rfl m_c0 (fun _ => ?_) (fun c => absurd (by decide) c)
                  refine e_load q_76 rfl rfl rfl ?_
                  refine e_push q_76 rfl ?_
                  refine e_virt q_76 rfl rfl (Nat.le_of_ble_eq_true rfl) rfl rfl (Nat.le_of_ble_eq_true rfl) rfl ?_
                  show Ev S (d + 1) 105 0 [some (.inr (some 0)), some (.inl (-100004))] [] σ _
                  refine e_load q_105 rfl rfl rfl ?_
                  refine e_dup q_105 rfl ?_
                  refine e_getI q_105 rfl rfl rfl ?_
                  refine e_push q_105 rfl ?_
                  refine e_bin (r := (σ 0 5) + 1) q_105 rfl rfl ?_
                  refine e_putI q_105 rfl rfl rfl ?_
                  refine e_load q_105 rfl rfl rfl ?_
                  refine e_ireturn q_105 rfl rfl ?_
                  show Ev S (d + 2) 76 22 [some (.inr (some 0)), some (.inl x1), some (.inl x2)] [.inl (-100004)] (up σ 0 5 ((σ 0 5) + 1)) _
                  exact e_ireturn q_76 rfl rfl h
                · replace h := h.2 c
                  refine e_push q_11 rfl ?_
                  refine e_goto q_11 rfl ?_
                  refine e_zreturn q_11 rfl rfl (by decide) ?_
                  show Ev S (d + 2) 76 16 [some (.inr (some 0)), some (.inl x1), some (.inl x2)] [.inl 1] σ _
                  refine e_if (P := (1 : Int32) = 0) q_76 rfl m_c0 (fun c => absurd c (by decide)) (fun _ => ?_)
                  refine e_load q_76 rfl rfl rfl ?_
                  refine e_goto q_76 rfl ?_
                  exact e_ireturn q_76 rfl rfl h
        · replace h := h.2 c
          refine e_push q_107 rfl ?_
          refine e_goto q_107 rfl ?_
          refine e_zreturn q_107 rfl rfl (by decide) ?_
          show Ev S (d + 2) 76 6 [some (.inr (some 0)), some (.inl x1), some (.inl x2)] [.inl 1] σ _
          refine e_if (P := (1 : Int32) = 0) q_76 rfl m_c0 (fun c => absurd c (by decide)) (fun _ => ?_)
          refine e_load q_76 rfl rfl rfl ?_
          refine e_push q_76 rfl ?_
          refine e_virt q_76 rfl rfl (Nat.le_of_ble_eq_true rfl) rfl rfl (Nat.le_of_ble_eq_true rfl) rfl ?_
          show Ev S (d + 1) 105 0 [some (.inr (some 0)), some (.inl (-100001))] [] σ _
          refine e_load q_105 rfl rfl rfl ?_
          refine e_dup q_105 rfl ?_
          refine e_getI q_105 rfl rfl rfl ?_
          refine e_push q_105 rfl ?_
          refine e_bin (r := (σ 0 5) + 1) q_105 rfl rfl ?_
          refine e_putI q_105 rfl rfl rfl ?_
          refine e_load q_105 rfl rfl rfl ?_
          refine e_ireturn q_105 rfl rfl ?_
          show Ev S (d + 2) 76 10 [some (.inr (some 0)), some (.inl x1), some (.inl x2)] [.inl (-100001)] (up σ 0 5 ((σ 0 5) + 1)) _
          exact e_ireturn q_76 rfl rfl h
    · replace h := h.2 c
      refine e_push q_106 rfl ?_
      refine e_goto q_106 rfl ?_
      refine e_zreturn q_106 rfl rfl (by decide) ?_
      show Ev S (d + 2) 76 3 [some (.inr (some 0)), some (.inl x1), some (.inl x2)] [.inl 1] σ _
      refine e_if (P := ¬ (1 : Int32) = 0) q_76 rfl m_c1 (fun _ => ?_) (fun c => absurd (by decide) c)
      refine e_load q_76 rfl rfl rfl ?_
      refine e_push q_76 rfl ?_
      refine e_virt q_76 rfl rfl (Nat.le_of_ble_eq_true rfl) rfl rfl (Nat.le_of_ble_eq_true rfl) rfl ?_
      show Ev S (d + 1) 105 0 [some (.inr (some 0)), some (.inl (-100001))] [] σ _
      refine e_load q_105 rfl rfl rfl ?_
      refine e_dup q_105 rfl ?_
      refine e_getI q_105 rfl rfl rfl ?_
      refine e_push q_105 rfl ?_
      refine e_bin (r := (σ 0 5) + 1) q_105 rfl rfl ?_
      refine e_putI q_105 rfl rfl rfl ?_
      refine e_load q_105 rfl rfl rfl ?_
      refine e_ireturn q_105 rfl rfl ?_
      show Ev S (d + 2) 76 10 [some (.inr (some 0)), some (.inl x1), some (.inl x2)] [.inl (-100001)] (up σ 0 5 ((σ 0 5) + 1)) _
      exact e_ireturn q_76 rfl rfl h
theorem g_77_0 {S : Nat × (Nat → Int32)} {d : Nat} {σ : Mem} {Q : MQ1} {x1 : Int32} {x2 : Int32} {x3 : Int32}  (h : ((x1 < 0 → Q [.inl (-100001)] (up σ 0 5 ((σ 0 5) + 1))) ∧ (¬ (x1 < 0) → ((x1 < (σ 2 80) → ((x2 < 0 → Q [.inl (-100001)] (up σ 0 5 ((σ 0 5) + 1))) ∧ (¬ (x2 < 0) → ((x2 < (σ 2 80) → ((x3 = 0 → Ec S (d + 2) 26 [.inr (some 24), .inr (some 1)] σ (fun rv σ' => Ev S (d + 3) 77 35 [some (.inr (some 0)), some (.inl x1), some (.inl x2), some (.inl x3), none, none] (rv ++ []) σ' Q)) ∧ (¬ (x3 = 0) → ((x1 = x2 → Q [.inl (-100007)] (up σ 0 5 ((σ 0 5) + 1))) ∧ (¬ (x1 = x2) → Ec S (d + 2) 15 [.inr (some 1), .inl (1 <<< (x2 &&& 31))] σ (fun rv σ' => Ev S (d + 3) 77 23 [some (.inr (some 0)), some (.inl x1), some (.inl x2), some (.inl x3), none, none] (rv ++ []) σ' Q)))))) ∧ (¬ (x2 < (σ 2 80)) → Q [.inl (-100001)] (up σ 0 5 ((σ 0 5) + 1))))))) ∧ (¬ (x1 < (σ 2 80)) → Q [.inl (-100001)] (up σ 0 5 ((σ 0 5) + 1))))))) : Ev S (d + 3) 77 0 [some (.inr (some 0)), some (.inl x1), some (.inl x2), some (.inl x3), none, none] [] σ Q := by
  refine e_load q_77 rfl rfl rfl ?_
  refine e_load q_77 rfl rfl rfl ?_
  refine e_virt q_77 rfl rfl (Nat.le_of_ble_eq_true rfl) rfl rfl (Nat.le_of_ble_eq_true rfl) rfl ?_
  show Ev S (d + 2) 106 0 [some (.inr (some 0)), some (.inl x1)] [] σ _
  refine e_load q_106 rfl rfl rfl ?_
  refine e_if (P := x1 < 0) q_106 rfl m_c2 (fun c => ?_) (fun c => ?_)
  · replace h := h.1 c
    refine e_push q_106 rfl ?_
    refine e_goto q_106 rfl ?_
    refine e_zreturn q_106 rfl rfl (by decide) ?_
    show Ev S (d + 3) 77 3 [some (.inr (some 0)), some (.inl x1), some (.inl x2), some (.inl x3), none, none] [.inl 1] σ _
    refine e_if (P := ¬ (1 : Int32) = 0) q_77 rfl m_c1 (fun _ => ?_) (fun c => absurd (by decide) c)
    refine e_load q_77 rfl rfl rfl ?_
    refine e_push q_77 rfl ?_
    refine e_virt q_77 rfl rfl (Nat.le_of_ble_eq_true rfl) rfl rfl (Nat.le_of_ble_eq_true rfl) rfl ?_
    show Ev S (d + 2) 105 0 [some (.inr (some 0)), some (.inl (-100001))] [] σ _
    refine e_load q_105 rfl rfl rfl ?_
    refine e_dup q_105 rfl ?_
    refine e_getI q_105 rfl rfl rfl ?_
    refine e_push q_105 rfl ?_
    refine e_bin (r := (σ 0 5) + 1) q_105 rfl rfl ?_
    refine e_putI q_105 rfl rfl rfl ?_
    refine e_load q_105 rfl rfl rfl ?_
    refine e_ireturn q_105 rfl rfl ?_
    show Ev S (d + 3) 77 11 [some (.inr (some 0)), some (.inl x1), some (.inl x2), some (.inl x3), none, none] [.inl (-100001)] (up σ 0 5 ((σ 0 5) + 1)) _
    exact e_ireturn q_77 rfl rfl h
  · replace h := h.2 c
    refine e_load q_106 rfl rfl rfl ?_
    refine e_load q_106 rfl rfl rfl ?_
    refine e_getR q_106 rfl rfl rfl ?_
    refine e_virt q_106 rfl rfl (Nat.le_of_ble_eq_true rfl) rfl rfl (Nat.le_of_ble_eq_true rfl) rfl ?_
    show Ev S (d + 1) 7 0 [some (.inr (some 1))] [] σ _
    refine e_load q_7 rfl rfl rfl ?_
    refine e_getR q_7 rfl rfl rfl ?_
    refine e_push q_7 rfl ?_
    refine e_iald (j := 80) q_7 rfl rfl (by decide) (by decide +kernel) (by decide) ?_
    refine e_ireturn q_7 rfl rfl ?_
    show Ev S (d + 2) 106 6 [some (.inr (some 0)), some (.inl x1)] [.inl (σ 2 80), .inl x1] σ _
    refine e_icmp (P := x1 < (σ 2 80)) q_106 rfl m_c2 (fun c => ?_) (fun c => ?_)
    · replace h := h.1 c
      refine e_push q_106 rfl ?_
      refine e_zreturn q_106 rfl rfl (by decide) ?_
      show Ev S (d + 3) 77 3 [some (.inr (some 0)), some (.inl x1), some (.inl x2), some (.inl x3), none, none] [.inl 0] σ _
      refine e_if (P := ¬ (0 : Int32) = 0) q_77 rfl m_c1 (fun c => absurd c (by decide)) (fun _ => ?_)
      refine e_load q_77 rfl rfl rfl ?_
      refine e_load q_77 rfl rfl rfl ?_
      refine e_virt q_77 rfl rfl (Nat.le_of_ble_eq_true rfl) rfl rfl (Nat.le_of_ble_eq_true rfl) rfl ?_
      show Ev S (d + 2) 106 0 [some (.inr (some 0)), some (.inl x2)] [] σ _
      refine e_load q_106 rfl rfl rfl ?_
      refine e_if (P := x2 < 0) q_106 rfl m_c2 (fun c => ?_) (fun c => ?_)
      · replace h := h.1 c
        refine e_push q_106 rfl ?_
        refine e_goto q_106 rfl ?_
        refine e_zreturn q_106 rfl rfl (by decide) ?_
        show Ev S (d + 3) 77 7 [some (.inr (some 0)), some (.inl x1), some (.inl x2), some (.inl x3), none, none] [.inl 1] σ _
        refine e_if (P := (1 : Int32) = 0) q_77 rfl m_c0 (fun c => absurd c (by decide)) (fun _ => ?_)
        refine e_load q_77 rfl rfl rfl ?_
        refine e_push q_77 rfl ?_
        refine e_virt q_77 rfl rfl (Nat.le_of_ble_eq_true rfl) rfl rfl (Nat.le_of_ble_eq_true rfl) rfl ?_
        show Ev S (d + 2) 105 0 [some (.inr (some 0)), some (.inl (-100001))] [] σ _
        refine e_load q_105 rfl rfl rfl ?_
        refine e_dup q_105 rfl ?_
        refine e_getI q_105 rfl rfl rfl ?_
        refine e_push q_105 rfl ?_
        refine e_bin (r := (σ 0 5) + 1) q_105 rfl rfl ?_
        refine e_putI q_105 rfl rfl rfl ?_
        refine e_load q_105 rfl rfl rfl ?_
        refine e_ireturn q_105 rfl rfl ?_
        show Ev S (d + 3) 77 11 [some (.inr (some 0)), some (.inl x1), some (.inl x2), some (.inl x3), none, none] [.inl (-100001)] (up σ 0 5 ((σ 0 5) + 1)) _
        exact e_ireturn q_77 rfl rfl h
      · replace h := h.2 c
        refine e_load q_106 rfl rfl rfl ?_
        refine e_load q_106 rfl rfl rfl ?_
        refine e_getR q_106 rfl rfl rfl ?_
        refine e_virt q_106 rfl rfl (Nat.le_of_ble_eq_true rfl) rfl rfl (Nat.le_of_ble_eq_true rfl) rfl ?_
        show Ev S (d + 1) 7 0 [some (.inr (some 1))] [] σ _
        refine e_load q_7 rfl rfl rfl ?_
        refine e_getR q_7 rfl rfl rfl ?_
        refine e_push q_7 rfl ?_
        refine e_iald (j := 80) q_7 rfl rfl (by decide) (by decide +kernel) (by decide) ?_
        refine e_ireturn q_7 rfl rfl ?_
        show Ev S (d + 2) 106 6 [some (.inr (some 0)), some (.inl x2)] [.inl (σ 2 80), .inl x2] σ _
        refine e_icmp (P := x2 < (σ 2 80)) q_106 rfl m_c2 (fun c => ?_) (fun c => ?_)
        · replace h := h.1 c
          refine e_push q_106 rfl ?_
          refine e_zreturn q_106 rfl rfl (by decide) ?_
          show Ev S (d + 3) 77 7 [some (.inr (some 0)), some (.inl x1), some (.inl x2), some (.inl x3), none, none] [.inl 0] σ _
          refine e_if (P := (0 : Int32) = 0) q_77 rfl m_c0 (fun _ => ?_) (fun c => absurd (by decide) c)
          refine e_load q_77 rfl rfl rfl ?_
          refine e_if (P := x3 = 0) q_77 rfl m_c0 (fun c => ?_) (fun c => ?_)
          · replace h := h.1 c
            refine e_load q_77 rfl rfl rfl ?_
            refine e_getR q_77 rfl rfl rfl ?_
            refine e_load q_77 rfl rfl rfl ?_
            refine e_getR q_77 rfl rfl rfl ?_
            exact e_virt q_77 rfl rfl (Nat.le_of_ble_eq_true rfl) rfl rfl (Nat.le_of_ble_eq_true rfl) rfl h
          · replace h := h.2 c
            refine e_load q_77 rfl rfl rfl ?_
            refine e_load q_77 rfl rfl rfl ?_
            refine e_icmp (P := x1 = x2) q_77 rfl m_c0 (fun c => ?_) (fun c => ?_)
            · replace h := h.1 c
              refine e_load q_77 rfl rfl rfl ?_
              refine e_push q_77 rfl ?_
              refine e_virt q_77 rfl rfl (Nat.le_of_ble_eq_true rfl) rfl rfl (Nat.le_of_ble_eq_true rfl) rfl ?_
              show Ev S (d + 2) 105 0 [some (.inr (some 0)), some (.inl (-100007))] [] σ _
              refine e_load q_105 rfl rfl rfl ?_
              refine e_dup q_105 rfl ?_
              refine e_getI q_105 rfl rfl rfl ?_
              refine e_push q_105 rfl ?_
              refine e_bin (r := (σ 0 5) + 1) q_105 rfl rfl ?_
              refine e_putI q_105 rfl rfl rfl ?_
              refine e_load q_105 rfl rfl rfl ?_
              refine e_ireturn q_105 rfl rfl ?_
              show Ev S (d + 3) 77 29 [some (.inr (some 0)), some (.inl x1), some (.inl x2), some (.inl x3), none, none] [.inl (-100007)] (up σ 0 5 ((σ 0 5) + 1)) _
              exact e_ireturn q_77 rfl rfl h
            · replace h := h.2 c
              refine e_load q_77 rfl rfl rfl ?_
              refine e_getR q_77 rfl rfl rfl ?_
              refine e_push q_77 rfl ?_
              refine e_load q_77 rfl rfl rfl ?_
              refine e_bin (r := 1 <<< (x2 &&& 31)) q_77 rfl rfl ?_
              exact e_virt q_77 rfl rfl (Nat.le_of_ble_eq_true rfl) rfl rfl (Nat.le_of_ble_eq_true rfl) rfl h
        · replace h := h.2 c
          refine e_push q_106 rfl ?_
          refine e_goto q_106 rfl ?_
          refine e_zreturn q_106 rfl rfl (by decide) ?_
          show Ev S (d + 3) 77 7 [some (.inr (some 0)), some (.inl x1), some (.inl x2), some (.inl x3), none, none] [.inl 1] σ _
          refine e_if (P := (1 : Int32) = 0) q_77 rfl m_c0 (fun c => absurd c (by decide)) (fun _ => ?_)
          refine e_load q_77 rfl rfl rfl ?_
          refine e_push q_77 rfl ?_
          refine e_virt q_77 rfl rfl (Nat.le_of_ble_eq_true rfl) rfl rfl (Nat.le_of_ble_eq_true rfl) rfl ?_
          show Ev S (d + 2) 105 0 [some (.inr (some 0)), some (.inl (-100001))] [] σ _
          refine e_load q_105 rfl rfl rfl ?_
          refine e_dup q_105 rfl ?_
          refine e_getI q_105 rfl rfl rfl ?_
          refine e_push q_105 rfl ?_
          refine e_bin (r := (σ 0 5) + 1) q_105 rfl rfl ?_
          refine e_putI q_105 rfl rfl rfl ?_
          refine e_load q_105 rfl rfl rfl ?_
          refine e_ireturn q_105 rfl rfl ?_
          show Ev S (d + 3) 77 11 [some (.inr (some 0)), some (.inl x1), some (.inl x2), some (.inl x3), none, none] [.inl (-100001)] (up σ 0 5 ((σ 0 5) + 1)) _
          exact e_ireturn q_77 rfl rfl h
    · replace h := h.2 c
      refine e_push q_106 rfl ?_
      refine e_goto q_106 rfl ?_
      refine e_zreturn q_106 rfl rfl (by decide) ?_
      show Ev S (d + 3) 77 3 [some (.inr (some 0)), some (.inl x1), some (.inl x2), some (.inl x3), none, none] [.inl 1] σ _
      refine e_if (P := ¬ (1 : Int32) = 0) q_77 rfl m_c1 (fun _ => ?_) (fun c => absurd (by decide) c)
      refine e_load q_77 rfl rfl rfl ?_
      refine e_push q_77 rfl ?_
      refine e_virt q_77 rfl rfl (Nat.le_of_ble_eq_true rfl) rfl rfl (Nat.le_of_ble_eq_true rfl) rfl ?_
      show Ev S (d + 2) 105 0 [some (.inr (some 0)), some (.inl (-100001))] [] σ _
      refine e_load q_105 rfl rfl rfl ?_
      refine e_dup q_105 rfl ?_
      refine e_getI q_105 rfl rfl rfl ?_
      refine e_push q_105 rfl ?_
      refine e_bin (r := (σ 0 5) + 1) q_105 rfl rfl ?_
      refine e_putI q_105 rfl rfl rfl ?_
      refine e_load q_105 rfl rfl rfl ?_
      refine e_ireturn q_105 rfl rfl ?_
      show Ev S (d + 3) 77 11 [some (.inr (some 0)), some (.inl x1), some (.inl x2), some (.inl x3), none, none] [.inl (-100001)] (up σ 0 5 ((σ 0 5) + 1)) _
      exact e_ireturn q_77 rfl rfl h
theorem g_77_35 {S : Nat × (Nat → Int32)} {d : Nat} {σ : Mem} {Q : MQ1} {x1 : Int32} {x2 : Int32} {x3 : Int32} {o4 : Option MV} {o5 : Option MV}  (h : (∃ j1 : Nat, (2 * 8) + x1 = nI j1 ∧ j1 < 81 ∧ ((x3 = 0 → (∃ j2 : Nat, (2 * 8) + x1 = nI j2 ∧ j2 < 81 ∧ (((¬ (σ 2 j1) = ((σ 2 j1) &&& ((1 <<< (x2 &&& 31)) ^^^ (-1)))) → Q [.inl 1] (up σ 2 j2 ((σ 2 j1) &&& ((1 <<< (x2 &&& 31)) ^^^ (-1))))) ∧ (¬ (¬ (σ 2 j1) = ((σ 2 j1) &&& ((1 <<< (x2 &&& 31)) ^^^ (-1)))) → Q [.inl 0] (up σ 2 j2 ((σ 2 j1) &&& ((1 <<< (x2 &&& 31)) ^^^ (-1)))))))) ∧ (¬ (x3 = 0) → (∃ j3 : Nat, (2 * 8) + x1 = nI j3 ∧ j3 < 81 ∧ (((¬ (σ 2 j1) = ((σ 2 j1) ||| (1 <<< (x2 &&& 31)))) → Q [.inl 1] (up σ 2 j3 ((σ 2 j1) ||| (1 <<< (x2 &&& 31))))) ∧ (¬ (¬ (σ 2 j1) = ((σ 2 j1) ||| (1 <<< (x2 &&& 31)))) → Q [.inl 0] (up σ 2 j3 ((σ 2 j1) ||| (1 <<< (x2 &&& 31))))))))))) : Ev S (d + 3) 77 35 [some (.inr (some 0)), some (.inl x1), some (.inl x2), some (.inl x3), o4, o5] [] σ Q := by
  refine e_load q_77 rfl rfl rfl ?_
  refine e_getR q_77 rfl rfl rfl ?_
  refine e_push q_77 rfl ?_
  refine e_load q_77 rfl rfl rfl ?_
  refine e_virt q_77 rfl rfl (Nat.le_of_ble_eq_true rfl) rfl rfl (Nat.le_of_ble_eq_true rfl) rfl ?_
  show Ev S (d + 2) 8 0 [some (.inr (some 1)), some (.inl 2), some (.inl x1)] [] σ _
  refine e_load q_8 rfl rfl rfl ?_
  refine e_getR q_8 rfl rfl rfl ?_
  refine e_load q_8 rfl rfl rfl ?_
  refine e_push q_8 rfl ?_
  refine e_bin (r := 2 * 8) q_8 rfl rfl ?_
  refine e_load q_8 rfl rfl rfl ?_
  refine e_bin (r := (2 * 8) + x1) q_8 rfl rfl ?_
  obtain ⟨j1, hjj1, hlj1, h⟩ := h
  refine e_iald q_8 rfl rfl (by decide) hjj1 hlj1 ?_
  refine e_ireturn q_8 rfl rfl ?_
  show Ev S (d + 3) 77 40 [some (.inr (some 0)), some (.inl x1), some (.inl x2), some (.inl x3), o4, o5] [.inl (σ 2 j1)] σ _
  refine e_store (ls' := [some (.inr (some 0)), some (.inl x1), some (.inl x2), some (.inl x3), some (.inl (σ 2 j1)), o5]) q_77 rfl (Nat.le_of_ble_eq_true rfl) rfl rfl ?_
  refine e_load q_77 rfl rfl rfl ?_
  refine e_load q_77 rfl rfl rfl ?_
  refine e_load q_77 rfl rfl rfl ?_
  refine e_stat q_77 rfl (Nat.le_of_ble_eq_true rfl) rfl rfl (Nat.le_of_ble_eq_true rfl) ?_
  show Ev S (d + 2) 111 0 [some (.inl (σ 2 j1)), some (.inl x2), some (.inl x3)] [] σ _
  refine e_load q_111 rfl rfl rfl ?_
  refine e_if (P := x3 = 0) q_111 rfl m_c0 (fun c => ?_) (fun c => ?_)
  · replace h := h.1 c
    refine e_load q_111 rfl rfl rfl ?_
    refine e_push q_111 rfl ?_
    refine e_load q_111 rfl rfl rfl ?_
    refine e_bin (r := 1 <<< (x2 &&& 31)) q_111 rfl rfl ?_
    refine e_push q_111 rfl ?_
    refine e_bin (r := (1 <<< (x2 &&& 31)) ^^^ (-1)) q_111 rfl rfl ?_
    refine e_bin (r := (σ 2 j1) &&& ((1 <<< (x2 &&& 31)) ^^^ (-1))) q_111 rfl rfl ?_
    refine e_ireturn q_111 rfl rfl ?_
    show Ev S (d + 3) 77 45 [some (.inr (some 0)), some (.inl x1), some (.inl x2), some (.inl x3), some (.inl (σ 2 j1)), o5] [.inl ((σ 2 j1) &&& ((1 <<< (x2 &&& 31)) ^^^ (-1)))] σ _
    refine e_store (ls' := [some (.inr (some 0)), some (.inl x1), some (.inl x2), some (.inl x3), some (.inl (σ 2 j1)), some (.inl ((σ 2 j1) &&& ((1 <<< (x2 &&& 31)) ^^^ (-1))))]) q_77 rfl (Nat.le_of_ble_eq_true rfl) rfl rfl ?_
    refine e_load q_77 rfl rfl rfl ?_
    refine e_getR q_77 rfl rfl rfl ?_
    refine e_push q_77 rfl ?_
    refine e_load q_77 rfl rfl rfl ?_
    refine e_load q_77 rfl rfl rfl ?_
    refine e_virt q_77 rfl rfl (Nat.le_of_ble_eq_true rfl) rfl rfl (Nat.le_of_ble_eq_true rfl) rfl ?_
    show Ev S (d + 2) 9 0 [some (.inr (some 1)), some (.inl 2), some (.inl x1), some (.inl ((σ 2 j1) &&& ((1 <<< (x2 &&& 31)) ^^^ (-1))))] [] σ _
    refine e_load q_9 rfl rfl rfl ?_
    refine e_getR q_9 rfl rfl rfl ?_
    refine e_load q_9 rfl rfl rfl ?_
    refine e_push q_9 rfl ?_
    refine e_bin (r := 2 * 8) q_9 rfl rfl ?_
    refine e_load q_9 rfl rfl rfl ?_
    refine e_bin (r := (2 * 8) + x1) q_9 rfl rfl ?_
    refine e_load q_9 rfl rfl rfl ?_
    obtain ⟨j2, hjj2, hlj2, h⟩ := h
    refine e_iast q_9 rfl rfl (by decide) hjj2 hlj2 ?_
    refine e_return q_9 rfl rfl ?_
    show Ev S (d + 3) 77 52 [some (.inr (some 0)), some (.inl x1), some (.inl x2), some (.inl x3), some (.inl (σ 2 j1)), some (.inl ((σ 2 j1) &&& ((1 <<< (x2 &&& 31)) ^^^ (-1))))] [] (up σ 2 j2 ((σ 2 j1) &&& ((1 <<< (x2 &&& 31)) ^^^ (-1)))) _
    refine e_load q_77 rfl rfl rfl ?_
    refine e_load q_77 rfl rfl rfl ?_
    refine e_icmp (P := ¬ (σ 2 j1) = ((σ 2 j1) &&& ((1 <<< (x2 &&& 31)) ^^^ (-1)))) q_77 rfl m_c1 (fun c => ?_) (fun c => ?_)
    · replace h := h.1 c
      refine e_push q_77 rfl ?_
      exact e_ireturn q_77 rfl rfl h
    · replace h := h.2 c
      refine e_push q_77 rfl ?_
      refine e_goto q_77 rfl ?_
      exact e_ireturn q_77 rfl rfl h
  · replace h := h.2 c
    refine e_load q_111 rfl rfl rfl ?_
    refine e_push q_111 rfl ?_
    refine e_load q_111 rfl rfl rfl ?_
    refine e_bin (r := 1 <<< (x2 &&& 31)) q_111 rfl rfl ?_
    refine e_bin (r := (σ 2 j1) ||| (1 <<< (x2 &&& 31))) q_111 rfl rfl ?_
    refine e_goto q_111 rfl ?_
    refine e_ireturn q_111 rfl rfl ?_
    show Ev S (d + 3) 77 45 [some (.inr (some 0)), some (.inl x1), some (.inl x2), some (.inl x3), some (.inl (σ 2 j1)), o5] [.inl ((σ 2 j1) ||| (1 <<< (x2 &&& 31)))] σ _
    refine e_store (ls' := [some (.inr (some 0)), some (.inl x1), some (.inl x2), some (.inl x3), some (.inl (σ 2 j1)), some (.inl ((σ 2 j1) ||| (1 <<< (x2 &&& 31))))]) q_77 rfl (Nat.le_of_ble_eq_true rfl) rfl rfl ?_
    refine e_load q_77 rfl rfl rfl ?_
    refine e_getR q_77 rfl rfl rfl ?_
    refine e_push q_77 rfl ?_
    refine e_load q_77 rfl rfl rfl ?_
    refine e_load q_77 rfl rfl rfl ?_
    refine e_virt q_77 rfl rfl (Nat.le_of_ble_eq_true rfl) rfl rfl (Nat.le_of_ble_eq_true rfl) rfl ?_
    show Ev S (d + 2) 9 0 [some (.inr (some 1)), some (.inl 2), some (.inl x1), some (.inl ((σ 2 j1) ||| (1 <<< (x2 &&& 31))))] [] σ _
    refine e_load q_9 rfl rfl rfl ?_
    refine e_getR q_9 rfl rfl rfl ?_
    refine e_load q_9 rfl rfl rfl ?_
    refine e_push q_9 rfl ?_
    refine e_bin (r := 2 * 8) q_9 rfl rfl ?_
    refine e_load q_9 rfl rfl rfl ?_
    refine e_bin (r := (2 * 8) + x1) q_9 rfl rfl ?_
    refine e_load q_9 rfl rfl rfl ?_
    obtain ⟨j3, hjj3, hlj3, h⟩ := h
    refine e_iast q_9 rfl rfl (by decide) hjj3 hlj3 ?_
    refine e_return q_9 rfl rfl ?_
    show Ev S (d + 3) 77 52 [some (.inr (some 0)), some (.inl x1), some (.inl x2), some (.inl x3), some (.inl (σ 2 j1)), some (.inl ((σ 2 j1) ||| (1 <<< (x2 &&& 31))))] [] (up σ 2 j3 ((σ 2 j1) ||| (1 <<< (x2 &&& 31)))) _
    refine e_load q_77 rfl rfl rfl ?_
    refine e_load q_77 rfl rfl rfl ?_
    refine e_icmp (P := ¬ (σ 2 j1) = ((σ 2 j1) ||| (1 <<< (x2 &&& 31)))) q_77 rfl m_c1 (fun c => ?_) (fun c => ?_)
    · replace h := h.1 c
      refine e_push q_77 rfl ?_
      exact e_ireturn q_77 rfl rfl h
    · replace h := h.2 c
      refine e_push q_77 rfl ?_
      refine e_goto q_77 rfl ?_
      exact e_ireturn q_77 rfl rfl h
theorem g_77_23 {S : Nat × (Nat → Int32)} {d : Nat} {σ : Mem} {Q : MQ1} {x1 : Int32} {x2 : Int32} {x3 : Int32} {o4 : Option MV} {o5 : Option MV} {y0 : Int32}  (h : ((((y0 >>> (x1 &&& 31)) &&& 1) = 0 → Ec S (d + 2) 26 [.inr (some 24), .inr (some 1)] σ (fun rv σ' => Ev S (d + 3) 77 35 [some (.inr (some 0)), some (.inl x1), some (.inl x2), some (.inl x3), o4, o5] (rv ++ []) σ' Q)) ∧ (¬ (((y0 >>> (x1 &&& 31)) &&& 1) = 0) → Q [.inl (-100007)] (up σ 0 5 ((σ 0 5) + 1))))) : Ev S (d + 3) 77 23 [some (.inr (some 0)), some (.inl x1), some (.inl x2), some (.inl x3), o4, o5] [.inl y0] σ Q := by
  refine e_load q_77 rfl rfl rfl ?_
  refine e_stat q_77 rfl (Nat.le_of_ble_eq_true rfl) rfl rfl (Nat.le_of_ble_eq_true rfl) ?_
  show Ev S (d + 2) 110 0 [some (.inl y0), some (.inl x1)] [] σ _
  refine e_load q_110 rfl rfl rfl ?_
  refine e_load q_110 rfl rfl rfl ?_
  refine e_bin (r := y0 >>> (x1 &&& 31)) q_110 rfl rfl ?_
  refine e_push q_110 rfl ?_
  refine e_bin (r := (y0 >>> (x1 &&& 31)) &&& 1) q_110 rfl rfl ?_
  refine e_if (P := ((y0 >>> (x1 &&& 31)) &&& 1) = 0) q_110 rfl m_c0 (fun c => ?_) (fun c => ?_)
  · replace h := h.1 c
    refine e_push q_110 rfl ?_
    refine e_zreturn q_110 rfl rfl (by decide) ?_
    show Ev S (d + 3) 77 25 [some (.inr (some 0)), some (.inl x1), some (.inl x2), some (.inl x3), o4, o5] [.inl 0] σ _
    refine e_if (P := (0 : Int32) = 0) q_77 rfl m_c0 (fun _ => ?_) (fun c => absurd (by decide) c)
    refine e_load q_77 rfl rfl rfl ?_
    refine e_getR q_77 rfl rfl rfl ?_
    refine e_load q_77 rfl rfl rfl ?_
    refine e_getR q_77 rfl rfl rfl ?_
    exact e_virt q_77 rfl rfl (Nat.le_of_ble_eq_true rfl) rfl rfl (Nat.le_of_ble_eq_true rfl) rfl h
  · replace h := h.2 c
    refine e_push q_110 rfl ?_
    refine e_goto q_110 rfl ?_
    refine e_zreturn q_110 rfl rfl (by decide) ?_
    show Ev S (d + 3) 77 25 [some (.inr (some 0)), some (.inl x1), some (.inl x2), some (.inl x3), o4, o5] [.inl 1] σ _
    refine e_if (P := (1 : Int32) = 0) q_77 rfl m_c0 (fun c => absurd c (by decide)) (fun _ => ?_)
    refine e_load q_77 rfl rfl rfl ?_
    refine e_push q_77 rfl ?_
    refine e_virt q_77 rfl rfl (Nat.le_of_ble_eq_true rfl) rfl rfl (Nat.le_of_ble_eq_true rfl) rfl ?_
    show Ev S (d + 2) 105 0 [some (.inr (some 0)), some (.inl (-100007))] [] σ _
    refine e_load q_105 rfl rfl rfl ?_
    refine e_dup q_105 rfl ?_
    refine e_getI q_105 rfl rfl rfl ?_
    refine e_push q_105 rfl ?_
    refine e_bin (r := (σ 0 5) + 1) q_105 rfl rfl ?_
    refine e_putI q_105 rfl rfl rfl ?_
    refine e_load q_105 rfl rfl rfl ?_
    refine e_ireturn q_105 rfl rfl ?_
    show Ev S (d + 3) 77 29 [some (.inr (some 0)), some (.inl x1), some (.inl x2), some (.inl x3), o4, o5] [.inl (-100007)] (up σ 0 5 ((σ 0 5) + 1)) _
    exact e_ireturn q_77 rfl rfl h
theorem g_78_0 {S : Nat × (Nat → Int32)} {d : Nat} {σ : Mem} {Q : MQ1} {x1 : Int32} {x2 : Int32}  (h : ((x1 < 0 → Q [.inl (-100001)] (up σ 0 5 ((σ 0 5) + 1))) ∧ (¬ (x1 < 0) → ((x1 < (σ 2 80) → ((x2 < 0 → Q [.inl (-100001)] (up σ 0 5 ((σ 0 5) + 1))) ∧ (¬ (x2 < 0) → ((x2 ≤ 9 → (∃ j2 : Nat, 0 + x1 = nI j2 ∧ j2 < 81 ∧ (((¬ (σ 2 j2) = 2) → Ec S (d + 3) 112 [.inr (some 0), .inl 3, .inl x1, .inl x2] σ (fun rv σ' => Ev S (d + 4) 78 27 [some (.inr (some 0)), some (.inl x1), some (.inl x2)] (rv ++ []) σ' Q)) ∧ (¬ (¬ (σ 2 j2) = 2) → Q [.inl (-100004)] (up σ 0 5 ((σ 0 5) + 1)))))) ∧ (¬ (x2 ≤ 9) → Q [.inl (-100001)] (up σ 0 5 ((σ 0 5) + 1))))))) ∧ (¬ (x1 < (σ 2 80)) → Q [.inl (-100001)] (up σ 0 5 ((σ 0 5) + 1))))))) : Ev S (d + 4) 78 0 [some (.inr (some 0)), some (.inl x1), some (.inl x2)] [] σ Q := by
  refine e_load q_78 rfl rfl rfl ?_
  refine e_load q_78 rfl rfl rfl ?_
  refine e_virt q_78 rfl rfl (Nat.le_of_ble_eq_true rfl) rfl rfl (Nat.le_of_ble_eq_true rfl) rfl ?_
  show Ev S (d + 3) 106 0 [some (.inr (some 0)), some (.inl x1)] [] σ _
  refine e_load q_106 rfl rfl rfl ?_
  refine e_if (P := x1 < 0) q_106 rfl m_c2 (fun c => ?_) (fun c => ?_)
  · replace h := h.1 c
    refine e_push q_106 rfl ?_
    refine e_goto q_106 rfl ?_
    refine e_zreturn q_106 rfl rfl (by decide) ?_
    show Ev S (d + 4) 78 3 [some (.inr (some 0)), some (.inl x1), some (.inl x2)] [.inl 1] σ _
    refine e_if (P := ¬ (1 : Int32) = 0) q_78 rfl m_c1 (fun _ => ?_) (fun c => absurd (by decide) c)
    refine e_load q_78 rfl rfl rfl ?_
    refine e_push q_78 rfl ?_
    refine e_virt q_78 rfl rfl (Nat.le_of_ble_eq_true rfl) rfl rfl (Nat.le_of_ble_eq_true rfl) rfl ?_
    show Ev S (d + 3) 105 0 [some (.inr (some 0)), some (.inl (-100001))] [] σ _
    refine e_load q_105 rfl rfl rfl ?_
    refine e_dup q_105 rfl ?_
    refine e_getI q_105 rfl rfl rfl ?_
    refine e_push q_105 rfl ?_
    refine e_bin (r := (σ 0 5) + 1) q_105 rfl rfl ?_
    refine e_putI q_105 rfl rfl rfl ?_
    refine e_load q_105 rfl rfl rfl ?_
    refine e_ireturn q_105 rfl rfl ?_
    show Ev S (d + 4) 78 12 [some (.inr (some 0)), some (.inl x1), some (.inl x2)] [.inl (-100001)] (up σ 0 5 ((σ 0 5) + 1)) _
    exact e_ireturn q_78 rfl rfl h
  · replace h := h.2 c
    refine e_load q_106 rfl rfl rfl ?_
    refine e_load q_106 rfl rfl rfl ?_
    refine e_getR q_106 rfl rfl rfl ?_
    refine e_virt q_106 rfl rfl (Nat.le_of_ble_eq_true rfl) rfl rfl (Nat.le_of_ble_eq_true rfl) rfl ?_
    show Ev S (d + 2) 7 0 [some (.inr (some 1))] [] σ _
    refine e_load q_7 rfl rfl rfl ?_
    refine e_getR q_7 rfl rfl rfl ?_
    refine e_push q_7 rfl ?_
    refine e_iald (j := 80) q_7 rfl rfl (by decide) (by decide +kernel) (by decide) ?_
    refine e_ireturn q_7 rfl rfl ?_
    show Ev S (d + 3) 106 6 [some (.inr (some 0)), some (.inl x1)] [.inl (σ 2 80), .inl x1] σ _
    refine e_icmp (P := x1 < (σ 2 80)) q_106 rfl m_c2 (fun c => ?_) (fun c => ?_)
    · replace h := h.1 c
      refine e_push q_106 rfl ?_
      refine e_zreturn q_106 rfl rfl (by decide) ?_
      show Ev S (d + 4) 78 3 [some (.inr (some 0)), some (.inl x1), some (.inl x2)] [.inl 0] σ _
      refine e_if (P := ¬ (0 : Int32) = 0) q_78 rfl m_c1 (fun c => absurd c (by decide)) (fun _ => ?_)
      refine e_load q_78 rfl rfl rfl ?_
      refine e_if (P := x2 < 0) q_78 rfl m_c2 (fun c => ?_) (fun c => ?_)
      · replace h := h.1 c
        refine e_load q_78 rfl rfl rfl ?_
        refine e_push q_78 rfl ?_
        refine e_virt q_78 rfl rfl (Nat.le_of_ble_eq_true rfl) rfl rfl (Nat.le_of_ble_eq_true rfl) rfl ?_
        show Ev S (d + 3) 105 0 [some (.inr (some 0)), some (.inl (-100001))] [] σ _
        refine e_load q_105 rfl rfl rfl ?_
        refine e_dup q_105 rfl ?_
        refine e_getI q_105 rfl rfl rfl ?_
        refine e_push q_105 rfl ?_
        refine e_bin (r := (σ 0 5) + 1) q_105 rfl rfl ?_
        refine e_putI q_105 rfl rfl rfl ?_
        refine e_load q_105 rfl rfl rfl ?_
        refine e_ireturn q_105 rfl rfl ?_
        show Ev S (d + 4) 78 12 [some (.inr (some 0)), some (.inl x1), some (.inl x2)] [.inl (-100001)] (up σ 0 5 ((σ 0 5) + 1)) _
        exact e_ireturn q_78 rfl rfl h
      · replace h := h.2 c
        refine e_load q_78 rfl rfl rfl ?_
        refine e_push q_78 rfl ?_
        refine e_icmp (P := x2 ≤ 9) q_78 rfl m_c5 (fun c => ?_) (fun c => ?_)
        · replace h := h.1 c
          refine e_load q_78 rfl rfl rfl ?_
          refine e_getR q_78 rfl rfl rfl ?_
          refine e_load q_78 rfl rfl rfl ?_
          refine e_virt q_78 rfl rfl (Nat.le_of_ble_eq_true rfl) rfl rfl (Nat.le_of_ble_eq_true rfl) rfl ?_
          show Ev S (d + 3) 12 0 [some (.inr (some 1)), some (.inl x1)] [] σ _
          refine e_load q_12 rfl rfl rfl ?_
          refine e_getR q_12 rfl rfl rfl ?_
          refine e_push q_12 rfl ?_
          refine e_load q_12 rfl rfl rfl ?_
          refine e_bin (r := 0 + x1) q_12 rfl rfl ?_
          obtain ⟨j2, hjj2, hlj2, h⟩ := h
          refine e_iald q_12 rfl rfl (by decide) hjj2 hlj2 ?_
          refine e_push q_12 rfl ?_
          refine e_icmp (P := ¬ (σ 2 j2) = 2) q_12 rfl m_c1 (fun c => ?_) (fun c => ?_)
          · replace h := h.1 c
            refine e_push q_12 rfl ?_
            refine e_zreturn q_12 rfl rfl (by decide) ?_
            show Ev S (d + 4) 78 17 [some (.inr (some 0)), some (.inl x1), some (.inl x2)] [.inl 0] σ _
            refine e_if (P := (0 : Int32) = 0) q_78 rfl m_c0 (fun _ => ?_) (fun c => absurd (by decide) c)
            refine e_load q_78 rfl rfl rfl ?_
            refine e_push q_78 rfl ?_
            refine e_load q_78 rfl rfl rfl ?_
            refine e_load q_78 rfl rfl rfl ?_
            exact e_virt q_78 rfl rfl (Nat.le_of_ble_eq_true rfl) rfl rfl (Nat.le_of_ble_eq_true rfl) rfl h
          · replace h := h.2 c
            refine e_push q_12 rfl ?_
            refine e_goto q_12 rfl ?_
            refine e_zreturn q_12 rfl rfl (by decide) ?_
            show Ev S (d + 4) 78 17 [some (.inr (some 0)), some (.inl x1), some (.inl x2)] [.inl 1] σ _
            refine e_if (P := (1 : Int32) = 0) q_78 rfl m_c0 (fun c => absurd c (by decide)) (fun _ => ?_)
            refine e_load q_78 rfl rfl rfl ?_
            refine e_push q_78 rfl ?_
            refine e_virt q_78 rfl rfl (Nat.le_of_ble_eq_true rfl) rfl rfl (Nat.le_of_ble_eq_true rfl) rfl ?_
            show Ev S (d + 3) 105 0 [some (.inr (some 0)), some (.inl (-100004))] [] σ _
            refine e_load q_105 rfl rfl rfl ?_
            refine e_dup q_105 rfl ?_
            refine e_getI q_105 rfl rfl rfl ?_
            refine e_push q_105 rfl ?_
            refine e_bin (r := (σ 0 5) + 1) q_105 rfl rfl ?_
            refine e_putI q_105 rfl rfl rfl ?_
            refine e_load q_105 rfl rfl rfl ?_
            refine e_ireturn q_105 rfl rfl ?_
            show Ev S (d + 4) 78 21 [some (.inr (some 0)), some (.inl x1), some (.inl x2)] [.inl (-100004)] (up σ 0 5 ((σ 0 5) + 1)) _
            exact e_ireturn q_78 rfl rfl h
        · replace h := h.2 c
          refine e_load q_78 rfl rfl rfl ?_
          refine e_push q_78 rfl ?_
          refine e_virt q_78 rfl rfl (Nat.le_of_ble_eq_true rfl) rfl rfl (Nat.le_of_ble_eq_true rfl) rfl ?_
          show Ev S (d + 3) 105 0 [some (.inr (some 0)), some (.inl (-100001))] [] σ _
          refine e_load q_105 rfl rfl rfl ?_
          refine e_dup q_105 rfl ?_
          refine e_getI q_105 rfl rfl rfl ?_
          refine e_push q_105 rfl ?_
          refine e_bin (r := (σ 0 5) + 1) q_105 rfl rfl ?_
          refine e_putI q_105 rfl rfl rfl ?_
          refine e_load q_105 rfl rfl rfl ?_
          refine e_ireturn q_105 rfl rfl ?_
          show Ev S (d + 4) 78 12 [some (.inr (some 0)), some (.inl x1), some (.inl x2)] [.inl (-100001)] (up σ 0 5 ((σ 0 5) + 1)) _
          exact e_ireturn q_78 rfl rfl h
    · replace h := h.2 c
      refine e_push q_106 rfl ?_
      refine e_goto q_106 rfl ?_
      refine e_zreturn q_106 rfl rfl (by decide) ?_
      show Ev S (d + 4) 78 3 [some (.inr (some 0)), some (.inl x1), some (.inl x2)] [.inl 1] σ _
      refine e_if (P := ¬ (1 : Int32) = 0) q_78 rfl m_c1 (fun _ => ?_) (fun c => absurd (by decide) c)
      refine e_load q_78 rfl rfl rfl ?_
      refine e_push q_78 rfl ?_
      refine e_virt q_78 rfl rfl (Nat.le_of_ble_eq_true rfl) rfl rfl (Nat.le_of_ble_eq_true rfl) rfl ?_
      show Ev S (d + 3) 105 0 [some (.inr (some 0)), some (.inl (-100001))] [] σ _
      refine e_load q_105 rfl rfl rfl ?_
      refine e_dup q_105 rfl ?_
      refine e_getI q_105 rfl rfl rfl ?_
      refine e_push q_105 rfl ?_
      refine e_bin (r := (σ 0 5) + 1) q_105 rfl rfl ?_
      refine e_putI q_105 rfl rfl rfl ?_
      refine e_load q_105 rfl rfl rfl ?_
      refine e_ireturn q_105 rfl rfl ?_
      show Ev S (d + 4) 78 12 [some (.inr (some 0)), some (.inl x1), some (.inl x2)] [.inl (-100001)] (up σ 0 5 ((σ 0 5) + 1)) _
      exact e_ireturn q_78 rfl rfl h
theorem g_78_27 {S : Nat × (Nat → Int32)} {d : Nat} {σ : Mem} {Q : MQ1} {o0 : Option MV} {o1 : Option MV} {o2 : Option MV} {y0 : Int32}  (h : Q [.inl y0] σ) : Ev S (d + 4) 78 27 [o0, o1, o2] [.inl y0] σ Q := by
  exact e_ireturn q_78 rfl rfl h
theorem g_79_0 {S : Nat × (Nat → Int32)} {d : Nat} {σ : Mem} {Q : MQ1} {x1 : Int32} {x2 : Int32}  (h : ((x1 < 0 → Q [.inl (-100001)] (up σ 0 5 ((σ 0 5) + 1))) ∧ (¬ (x1 < 0) → ((x1 < (σ 2 80) → ((x2 < 0 → Q [.inl (-100001)] (up σ 0 5 ((σ 0 5) + 1))) ∧ (¬ (x2 < 0) → ((x2 ≤ 65535 → Ec S (d + 3) 112 [.inr (some 0), .inl 4, .inl x1, .inl x2] σ (fun rv σ' => Ev S (d + 4) 79 18 [some (.inr (some 0)), some (.inl x1), some (.inl x2)] (rv ++ []) σ' Q)) ∧ (¬ (x2 ≤ 65535) → Q [.inl (-100001)] (up σ 0 5 ((σ 0 5) + 1))))))) ∧ (¬ (x1 < (σ 2 80)) → Q [.inl (-100001)] (up σ 0 5 ((σ 0 5) + 1))))))) : Ev S (d + 4) 79 0 [some (.inr (some 0)), some (.inl x1), some (.inl x2)] [] σ Q := by
  refine e_load q_79 rfl rfl rfl ?_
  refine e_load q_79 rfl rfl rfl ?_
  refine e_virt q_79 rfl rfl (Nat.le_of_ble_eq_true rfl) rfl rfl (Nat.le_of_ble_eq_true rfl) rfl ?_
  show Ev S (d + 3) 106 0 [some (.inr (some 0)), some (.inl x1)] [] σ _
  refine e_load q_106 rfl rfl rfl ?_
  refine e_if (P := x1 < 0) q_106 rfl m_c2 (fun c => ?_) (fun c => ?_)
  · replace h := h.1 c
    refine e_push q_106 rfl ?_
    refine e_goto q_106 rfl ?_
    refine e_zreturn q_106 rfl rfl (by decide) ?_
    show Ev S (d + 4) 79 3 [some (.inr (some 0)), some (.inl x1), some (.inl x2)] [.inl 1] σ _
    refine e_if (P := ¬ (1 : Int32) = 0) q_79 rfl m_c1 (fun _ => ?_) (fun c => absurd (by decide) c)
    refine e_load q_79 rfl rfl rfl ?_
    refine e_push q_79 rfl ?_
    refine e_virt q_79 rfl rfl (Nat.le_of_ble_eq_true rfl) rfl rfl (Nat.le_of_ble_eq_true rfl) rfl ?_
    show Ev S (d + 3) 105 0 [some (.inr (some 0)), some (.inl (-100001))] [] σ _
    refine e_load q_105 rfl rfl rfl ?_
    refine e_dup q_105 rfl ?_
    refine e_getI q_105 rfl rfl rfl ?_
    refine e_push q_105 rfl ?_
    refine e_bin (r := (σ 0 5) + 1) q_105 rfl rfl ?_
    refine e_putI q_105 rfl rfl rfl ?_
    refine e_load q_105 rfl rfl rfl ?_
    refine e_ireturn q_105 rfl rfl ?_
    show Ev S (d + 4) 79 12 [some (.inr (some 0)), some (.inl x1), some (.inl x2)] [.inl (-100001)] (up σ 0 5 ((σ 0 5) + 1)) _
    exact e_ireturn q_79 rfl rfl h
  · replace h := h.2 c
    refine e_load q_106 rfl rfl rfl ?_
    refine e_load q_106 rfl rfl rfl ?_
    refine e_getR q_106 rfl rfl rfl ?_
    refine e_virt q_106 rfl rfl (Nat.le_of_ble_eq_true rfl) rfl rfl (Nat.le_of_ble_eq_true rfl) rfl ?_
    show Ev S (d + 2) 7 0 [some (.inr (some 1))] [] σ _
    refine e_load q_7 rfl rfl rfl ?_
    refine e_getR q_7 rfl rfl rfl ?_
    refine e_push q_7 rfl ?_
    refine e_iald (j := 80) q_7 rfl rfl (by decide) (by decide +kernel) (by decide) ?_
    refine e_ireturn q_7 rfl rfl ?_
    show Ev S (d + 3) 106 6 [some (.inr (some 0)), some (.inl x1)] [.inl (σ 2 80), .inl x1] σ _
    refine e_icmp (P := x1 < (σ 2 80)) q_106 rfl m_c2 (fun c => ?_) (fun c => ?_)
    · replace h := h.1 c
      refine e_push q_106 rfl ?_
      refine e_zreturn q_106 rfl rfl (by decide) ?_
      show Ev S (d + 4) 79 3 [some (.inr (some 0)), some (.inl x1), some (.inl x2)] [.inl 0] σ _
      refine e_if (P := ¬ (0 : Int32) = 0) q_79 rfl m_c1 (fun c => absurd c (by decide)) (fun _ => ?_)
      refine e_load q_79 rfl rfl rfl ?_
      refine e_if (P := x2 < 0) q_79 rfl m_c2 (fun c => ?_) (fun c => ?_)
      · replace h := h.1 c
        refine e_load q_79 rfl rfl rfl ?_
        refine e_push q_79 rfl ?_
        refine e_virt q_79 rfl rfl (Nat.le_of_ble_eq_true rfl) rfl rfl (Nat.le_of_ble_eq_true rfl) rfl ?_
        show Ev S (d + 3) 105 0 [some (.inr (some 0)), some (.inl (-100001))] [] σ _
        refine e_load q_105 rfl rfl rfl ?_
        refine e_dup q_105 rfl ?_
        refine e_getI q_105 rfl rfl rfl ?_
        refine e_push q_105 rfl ?_
        refine e_bin (r := (σ 0 5) + 1) q_105 rfl rfl ?_
        refine e_putI q_105 rfl rfl rfl ?_
        refine e_load q_105 rfl rfl rfl ?_
        refine e_ireturn q_105 rfl rfl ?_
        show Ev S (d + 4) 79 12 [some (.inr (some 0)), some (.inl x1), some (.inl x2)] [.inl (-100001)] (up σ 0 5 ((σ 0 5) + 1)) _
        exact e_ireturn q_79 rfl rfl h
      · replace h := h.2 c
        refine e_load q_79 rfl rfl rfl ?_
        refine e_push q_79 rfl ?_
        refine e_icmp (P := x2 ≤ 65535) q_79 rfl m_c5 (fun c => ?_) (fun c => ?_)
        · replace h := h.1 c
          refine e_load q_79 rfl rfl rfl ?_
          refine e_push q_79 rfl ?_
          refine e_load q_79 rfl rfl rfl ?_
          refine e_load q_79 rfl rfl rfl ?_
          exact e_virt q_79 rfl rfl (Nat.le_of_ble_eq_true rfl) rfl rfl (Nat.le_of_ble_eq_true rfl) rfl h
        · replace h := h.2 c
          refine e_load q_79 rfl rfl rfl ?_
          refine e_push q_79 rfl ?_
          refine e_virt q_79 rfl rfl (Nat.le_of_ble_eq_true rfl) rfl rfl (Nat.le_of_ble_eq_true rfl) rfl ?_
          show Ev S (d + 3) 105 0 [some (.inr (some 0)), some (.inl (-100001))] [] σ _
          refine e_load q_105 rfl rfl rfl ?_
          refine e_dup q_105 rfl ?_
          refine e_getI q_105 rfl rfl rfl ?_
          refine e_push q_105 rfl ?_
          refine e_bin (r := (σ 0 5) + 1) q_105 rfl rfl ?_
          refine e_putI q_105 rfl rfl rfl ?_
          refine e_load q_105 rfl rfl rfl ?_
          refine e_ireturn q_105 rfl rfl ?_
          show Ev S (d + 4) 79 12 [some (.inr (some 0)), some (.inl x1), some (.inl x2)] [.inl (-100001)] (up σ 0 5 ((σ 0 5) + 1)) _
          exact e_ireturn q_79 rfl rfl h
    · replace h := h.2 c
      refine e_push q_106 rfl ?_
      refine e_goto q_106 rfl ?_
      refine e_zreturn q_106 rfl rfl (by decide) ?_
      show Ev S (d + 4) 79 3 [some (.inr (some 0)), some (.inl x1), some (.inl x2)] [.inl 1] σ _
      refine e_if (P := ¬ (1 : Int32) = 0) q_79 rfl m_c1 (fun _ => ?_) (fun c => absurd (by decide) c)
      refine e_load q_79 rfl rfl rfl ?_
      refine e_push q_79 rfl ?_
      refine e_virt q_79 rfl rfl (Nat.le_of_ble_eq_true rfl) rfl rfl (Nat.le_of_ble_eq_true rfl) rfl ?_
      show Ev S (d + 3) 105 0 [some (.inr (some 0)), some (.inl (-100001))] [] σ _
      refine e_load q_105 rfl rfl rfl ?_
      refine e_dup q_105 rfl ?_
      refine e_getI q_105 rfl rfl rfl ?_
      refine e_push q_105 rfl ?_
      refine e_bin (r := (σ 0 5) + 1) q_105 rfl rfl ?_
      refine e_putI q_105 rfl rfl rfl ?_
      refine e_load q_105 rfl rfl rfl ?_
      refine e_ireturn q_105 rfl rfl ?_
      show Ev S (d + 4) 79 12 [some (.inr (some 0)), some (.inl x1), some (.inl x2)] [.inl (-100001)] (up σ 0 5 ((σ 0 5) + 1)) _
      exact e_ireturn q_79 rfl rfl h
theorem g_79_18 {S : Nat × (Nat → Int32)} {d : Nat} {σ : Mem} {Q : MQ1} {o0 : Option MV} {o1 : Option MV} {o2 : Option MV} {y0 : Int32}  (h : Q [.inl y0] σ) : Ev S (d + 4) 79 18 [o0, o1, o2] [.inl y0] σ Q := by
  exact e_ireturn q_79 rfl rfl h
theorem g_80_0 {S : Nat × (Nat → Int32)} {d : Nat} {σ : Mem} {Q : MQ1} {x1 : Int32} {x2 : Int32}  (h : ((x1 < 0 → Q [.inl (-100001)] (up σ 0 5 ((σ 0 5) + 1))) ∧ (¬ (x1 < 0) → ((x1 < (σ 2 80) → ((x2 = (-1) → (∃ j2 : Nat, (0 * 8) + x1 = nI j2 ∧ j2 < 81 ∧ ((3 = (σ 2 j2) → (((¬ x1 = x2) → Ec S (d + 3) 112 [.inr (some 0), .inl 8, .inl x1, .inl x2] σ (fun rv σ' => Ev S (d + 4) 80 37 [some (.inr (some 0)), some (.inl x1), some (.inl x2)] (rv ++ []) σ' Q)) ∧ (¬ (¬ x1 = x2) → Q [.inl (-100003)] (up σ 0 5 ((σ 0 5) + 1))))) ∧ (¬ (3 = (σ 2 j2)) → Q [.inl (-100004)] (up σ 0 5 ((σ 0 5) + 1)))))) ∧ (¬ (x2 = (-1)) → ((x2 < 0 → Q [.inl (-100001)] (up σ 0 5 ((σ 0 5) + 1))) ∧ (¬ (x2 < 0) → ((x2 < (σ 2 80) → (∃ j4 : Nat, (0 * 8) + x1 = nI j4 ∧ j4 < 81 ∧ ((3 = (σ 2 j4) → (((¬ x1 = x2) → Ec S (d + 3) 112 [.inr (some 0), .inl 8, .inl x1, .inl x2] σ (fun rv σ' => Ev S (d + 4) 80 37 [some (.inr (some 0)), some (.inl x1), some (.inl x2)] (rv ++ []) σ' Q)) ∧ (¬ (¬ x1 = x2) → Q [.inl (-100003)] (up σ 0 5 ((σ 0 5) + 1))))) ∧ (¬ (3 = (σ 2 j4)) → Q [.inl (-100004)] (up σ 0 5 ((σ 0 5) + 1)))))) ∧ (¬ (x2 < (σ 2 80)) → Q [.inl (-100001)] (up σ 0 5 ((σ 0 5) + 1))))))))) ∧ (¬ (x1 < (σ 2 80)) → Q [.inl (-100001)] (up σ 0 5 ((σ 0 5) + 1))))))) : Ev S (d + 4) 80 0 [some (.inr (some 0)), some (.inl x1), some (.inl x2)] [] σ Q := by
  refine e_load q_80 rfl rfl rfl ?_
  refine e_load q_80 rfl rfl rfl ?_
  refine e_virt q_80 rfl rfl (Nat.le_of_ble_eq_true rfl) rfl rfl (Nat.le_of_ble_eq_true rfl) rfl ?_
  show Ev S (d + 3) 106 0 [some (.inr (some 0)), some (.inl x1)] [] σ _
  refine e_load q_106 rfl rfl rfl ?_
  refine e_if (P := x1 < 0) q_106 rfl m_c2 (fun c => ?_) (fun c => ?_)
  · replace h := h.1 c
    refine e_push q_106 rfl ?_
    refine e_goto q_106 rfl ?_
    refine e_zreturn q_106 rfl rfl (by decide) ?_
    show Ev S (d + 4) 80 3 [some (.inr (some 0)), some (.inl x1), some (.inl x2)] [.inl 1] σ _
    refine e_if (P := ¬ (1 : Int32) = 0) q_80 rfl m_c1 (fun _ => ?_) (fun c => absurd (by decide) c)
    refine e_load q_80 rfl rfl rfl ?_
    refine e_push q_80 rfl ?_
    refine e_virt q_80 rfl rfl (Nat.le_of_ble_eq_true rfl) rfl rfl (Nat.le_of_ble_eq_true rfl) rfl ?_
    show Ev S (d + 3) 105 0 [some (.inr (some 0)), some (.inl (-100001))] [] σ _
    refine e_load q_105 rfl rfl rfl ?_
    refine e_dup q_105 rfl ?_
    refine e_getI q_105 rfl rfl rfl ?_
    refine e_push q_105 rfl ?_
    refine e_bin (r := (σ 0 5) + 1) q_105 rfl rfl ?_
    refine e_putI q_105 rfl rfl rfl ?_
    refine e_load q_105 rfl rfl rfl ?_
    refine e_ireturn q_105 rfl rfl ?_
    show Ev S (d + 4) 80 14 [some (.inr (some 0)), some (.inl x1), some (.inl x2)] [.inl (-100001)] (up σ 0 5 ((σ 0 5) + 1)) _
    exact e_ireturn q_80 rfl rfl h
  · replace h := h.2 c
    refine e_load q_106 rfl rfl rfl ?_
    refine e_load q_106 rfl rfl rfl ?_
    refine e_getR q_106 rfl rfl rfl ?_
    refine e_virt q_106 rfl rfl (Nat.le_of_ble_eq_true rfl) rfl rfl (Nat.le_of_ble_eq_true rfl) rfl ?_
    show Ev S (d + 2) 7 0 [some (.inr (some 1))] [] σ _
    refine e_load q_7 rfl rfl rfl ?_
    refine e_getR q_7 rfl rfl rfl ?_
    refine e_push q_7 rfl ?_
    refine e_iald (j := 80) q_7 rfl rfl (by decide) (by decide +kernel) (by decide) ?_
    refine e_ireturn q_7 rfl rfl ?_
    show Ev S (d + 3) 106 6 [some (.inr (some 0)), some (.inl x1)] [.inl (σ 2 80), .inl x1] σ _
    refine e_icmp (P := x1 < (σ 2 80)) q_106 rfl m_c2 (fun c => ?_) (fun c => ?_)
    · replace h := h.1 c
      refine e_push q_106 rfl ?_
      refine e_zreturn q_106 rfl rfl (by decide) ?_
      show Ev S (d + 4) 80 3 [some (.inr (some 0)), some (.inl x1), some (.inl x2)] [.inl 0] σ _
      refine e_if (P := ¬ (0 : Int32) = 0) q_80 rfl m_c1 (fun c => absurd c (by decide)) (fun _ => ?_)
      refine e_load q_80 rfl rfl rfl ?_
      refine e_push q_80 rfl ?_
      refine e_icmp (P := x2 = (-1)) q_80 rfl m_c0 (fun c => ?_) (fun c => ?_)
      · replace h := h.1 c
        refine e_load q_80 rfl rfl rfl ?_
        refine e_getR q_80 rfl rfl rfl ?_
        refine e_load q_80 rfl rfl rfl ?_
        refine e_push q_80 rfl ?_
        refine e_virt q_80 rfl rfl (Nat.le_of_ble_eq_true rfl) rfl rfl (Nat.le_of_ble_eq_true rfl) rfl ?_
        show Ev S (d + 3) 11 0 [some (.inr (some 1)), some (.inl x1), some (.inl 3), none] [] σ _
        refine e_load q_11 rfl rfl rfl ?_
        refine e_push q_11 rfl ?_
        refine e_load q_11 rfl rfl rfl ?_
        refine e_virt q_11 rfl rfl (Nat.le_of_ble_eq_true rfl) rfl rfl (Nat.le_of_ble_eq_true rfl) rfl ?_
        show Ev S (d + 2) 8 0 [some (.inr (some 1)), some (.inl 0), some (.inl x1)] [] σ _
        refine e_load q_8 rfl rfl rfl ?_
        refine e_getR q_8 rfl rfl rfl ?_
        refine e_load q_8 rfl rfl rfl ?_
        refine e_push q_8 rfl ?_
        refine e_bin (r := 0 * 8) q_8 rfl rfl ?_
        refine e_load q_8 rfl rfl rfl ?_
        refine e_bin (r := (0 * 8) + x1) q_8 rfl rfl ?_
        obtain ⟨j2, hjj2, hlj2, h⟩ := h
        refine e_iald q_8 rfl rfl (by decide) hjj2 hlj2 ?_
        refine e_ireturn q_8 rfl rfl ?_
        show Ev S (d + 3) 11 4 [some (.inr (some 1)), some (.inl x1), some (.inl 3), none] [.inl (σ 2 j2)] σ _
        refine e_store (ls' := [some (.inr (some 1)), some (.inl x1), some (.inl 3), some (.inl (σ 2 j2))]) q_11 rfl (Nat.le_of_ble_eq_true rfl) rfl rfl ?_
        refine e_load q_11 rfl rfl rfl ?_
        refine e_if (P := (3 : Int32) = 0) q_11 rfl m_c0 (fun c => absurd c (by decide)) (fun _ => ?_)
        refine e_load q_11 rfl rfl rfl ?_
        refine e_load q_11 rfl rfl rfl ?_
        refine e_icmp (P := 3 = (σ 2 j2)) q_11 rfl m_c0 (fun c => ?_) (fun c => ?_)
        · replace h := h.1 c
          refine e_push q_11 rfl ?_
          refine e_goto q_11 rfl ?_
          refine e_zreturn q_11 rfl rfl (by decide) ?_
          show Ev S (d + 4) 80 20 [some (.inr (some 0)), some (.inl x1), some (.inl x2)] [.inl 1] σ _
          refine e_if (P := ¬ (1 : Int32) = 0) q_80 rfl m_c1 (fun _ => ?_) (fun c => absurd (by decide) c)
          refine e_load q_80 rfl rfl rfl ?_
          refine e_load q_80 rfl rfl rfl ?_
          refine e_icmp (P := ¬ x1 = x2) q_80 rfl m_c1 (fun c => ?_) (fun c => ?_)
          · replace h := h.1 c
            refine e_load q_80 rfl rfl rfl ?_
            refine e_push q_80 rfl ?_
            refine e_load q_80 rfl rfl rfl ?_
            refine e_load q_80 rfl rfl rfl ?_
            exact e_virt q_80 rfl rfl (Nat.le_of_ble_eq_true rfl) rfl rfl (Nat.le_of_ble_eq_true rfl) rfl h
          · replace h := h.2 c
            refine e_load q_80 rfl rfl rfl ?_
            refine e_push q_80 rfl ?_
            refine e_virt q_80 rfl rfl (Nat.le_of_ble_eq_true rfl) rfl rfl (Nat.le_of_ble_eq_true rfl) rfl ?_
            show Ev S (d + 3) 105 0 [some (.inr (some 0)), some (.inl (-100003))] [] σ _
            refine e_load q_105 rfl rfl rfl ?_
            refine e_dup q_105 rfl ?_
            refine e_getI q_105 rfl rfl rfl ?_
            refine e_push q_105 rfl ?_
            refine e_bin (r := (σ 0 5) + 1) q_105 rfl rfl ?_
            refine e_putI q_105 rfl rfl rfl ?_
            refine e_load q_105 rfl rfl rfl ?_
            refine e_ireturn q_105 rfl rfl ?_
            show Ev S (d + 4) 80 31 [some (.inr (some 0)), some (.inl x1), some (.inl x2)] [.inl (-100003)] (up σ 0 5 ((σ 0 5) + 1)) _
            exact e_ireturn q_80 rfl rfl h
        · replace h := h.2 c
          refine e_load q_11 rfl rfl rfl ?_
          refine e_push q_11 rfl ?_
          refine e_icmp (P := ¬ (3 : Int32) = 1) q_11 rfl m_c1 (fun _ => ?_) (fun c => absurd (by decide) c)
          refine e_push q_11 rfl ?_
          refine e_zreturn q_11 rfl rfl (by decide) ?_
          show Ev S (d + 4) 80 20 [some (.inr (some 0)), some (.inl x1), some (.inl x2)] [.inl 0] σ _
          refine e_if (P := ¬ (0 : Int32) = 0) q_80 rfl m_c1 (fun c => absurd c (by decide)) (fun _ => ?_)
          refine e_load q_80 rfl rfl rfl ?_
          refine e_push q_80 rfl ?_
          refine e_virt q_80 rfl rfl (Nat.le_of_ble_eq_true rfl) rfl rfl (Nat.le_of_ble_eq_true rfl) rfl ?_
          show Ev S (d + 3) 105 0 [some (.inr (some 0)), some (.inl (-100004))] [] σ _
          refine e_load q_105 rfl rfl rfl ?_
          refine e_dup q_105 rfl ?_
          refine e_getI q_105 rfl rfl rfl ?_
          refine e_push q_105 rfl ?_
          refine e_bin (r := (σ 0 5) + 1) q_105 rfl rfl ?_
          refine e_putI q_105 rfl rfl rfl ?_
          refine e_load q_105 rfl rfl rfl ?_
          refine e_ireturn q_105 rfl rfl ?_
          show Ev S (d + 4) 80 24 [some (.inr (some 0)), some (.inl x1), some (.inl x2)] [.inl (-100004)] (up σ 0 5 ((σ 0 5) + 1)) _
          exact e_ireturn q_80 rfl rfl h
      · replace h := h.2 c
        refine e_load q_80 rfl rfl rfl ?_
        refine e_load q_80 rfl rfl rfl ?_
        refine e_virt q_80 rfl rfl (Nat.le_of_ble_eq_true rfl) rfl rfl (Nat.le_of_ble_eq_true rfl) rfl ?_
        show Ev S (d + 3) 106 0 [some (.inr (some 0)), some (.inl x2)] [] σ _
        refine e_load q_106 rfl rfl rfl ?_
        refine e_if (P := x2 < 0) q_106 rfl m_c2 (fun c => ?_) (fun c => ?_)
        · replace h := h.1 c
          refine e_push q_106 rfl ?_
          refine e_goto q_106 rfl ?_
          refine e_zreturn q_106 rfl rfl (by decide) ?_
          show Ev S (d + 4) 80 10 [some (.inr (some 0)), some (.inl x1), some (.inl x2)] [.inl 1] σ _
          refine e_if (P := (1 : Int32) = 0) q_80 rfl m_c0 (fun c => absurd c (by decide)) (fun _ => ?_)
          refine e_load q_80 rfl rfl rfl ?_
          refine e_push q_80 rfl ?_
          refine e_virt q_80 rfl rfl (Nat.le_of_ble_eq_true rfl) rfl rfl (Nat.le_of_ble_eq_true rfl) rfl ?_
          show Ev S (d + 3) 105 0 [some (.inr (some 0)), some (.inl (-100001))] [] σ _
          refine e_load q_105 rfl rfl rfl ?_
          refine e_dup q_105 rfl ?_
          refine e_getI q_105 rfl rfl rfl ?_
          refine e_push q_105 rfl ?_
          refine e_bin (r := (σ 0 5) + 1) q_105 rfl rfl ?_
          refine e_putI q_105 rfl rfl rfl ?_
          refine e_load q_105 rfl rfl rfl ?_
          refine e_ireturn q_105 rfl rfl ?_
          show Ev S (d + 4) 80 14 [some (.inr (some 0)), some (.inl x1), some (.inl x2)] [.inl (-100001)] (up σ 0 5 ((σ 0 5) + 1)) _
          exact e_ireturn q_80 rfl rfl h
        · replace h := h.2 c
          refine e_load q_106 rfl rfl rfl ?_
          refine e_load q_106 rfl rfl rfl ?_
          refine e_getR q_106 rfl rfl rfl ?_
          refine e_virt q_106 rfl rfl (Nat.le_of_ble_eq_true rfl) rfl rfl (Nat.le_of_ble_eq_true rfl) rfl ?_
          show Ev S (d + 2) 7 0 [some (.inr (some 1))] [] σ _
          refine e_load q_7 rfl rfl rfl ?_
          refine e_getR q_7 rfl rfl rfl ?_
          refine e_push q_7 rfl ?_
          refine e_iald (j := 80) q_7 rfl rfl (by decide) (by decide +kernel) (by decide) ?_
          refine e_ireturn q_7 rfl rfl ?_
          show Ev S (d + 3) 106 6 [some (.inr (some 0)), some (.inl x2)] [.inl (σ 2 80), .inl x2] σ _
          refine e_icmp (P := x2 < (σ 2 80)) q_106 rfl m_c2 (fun c => ?_) (fun c => ?_)
          · replace h := h.1 c
            refine e_push q_106 rfl ?_
            refine e_zreturn q_106 rfl rfl (by decide) ?_
            show Ev S (d + 4) 80 10 [some (.inr (some 0)), some (.inl x1), some (.inl x2)] [.inl 0] σ _
            refine e_if (P := (0 : Int32) = 0) q_80 rfl m_c0 (fun _ => ?_) (fun c => absurd (by decide) c)
            refine e_load q_80 rfl rfl rfl ?_
            refine e_getR q_80 rfl rfl rfl ?_
            refine e_load q_80 rfl rfl rfl ?_
            refine e_push q_80 rfl ?_
            refine e_virt q_80 rfl rfl (Nat.le_of_ble_eq_true rfl) rfl rfl (Nat.le_of_ble_eq_true rfl) rfl ?_
            show Ev S (d + 3) 11 0 [some (.inr (some 1)), some (.inl x1), some (.inl 3), none] [] σ _
            refine e_load q_11 rfl rfl rfl ?_
            refine e_push q_11 rfl ?_
            refine e_load q_11 rfl rfl rfl ?_
            refine e_virt q_11 rfl rfl (Nat.le_of_ble_eq_true rfl) rfl rfl (Nat.le_of_ble_eq_true rfl) rfl ?_
            show Ev S (d + 2) 8 0 [some (.inr (some 1)), some (.inl 0), some (.inl x1)] [] σ _
            refine e_load q_8 rfl rfl rfl ?_
            refine e_getR q_8 rfl rfl rfl ?_
            refine e_load q_8 rfl rfl rfl ?_
            refine e_push q_8 rfl ?_
            refine e_bin (r := 0 * 8) q_8 rfl rfl ?_
            refine e_load q_8 rfl rfl rfl ?_
            refine e_bin (r := (0 * 8) + x1) q_8 rfl rfl ?_
            obtain ⟨j4, hjj4, hlj4, h⟩ := h
            refine e_iald q_8 rfl rfl (by decide) hjj4 hlj4 ?_
            refine e_ireturn q_8 rfl rfl ?_
            show Ev S (d + 3) 11 4 [some (.inr (some 1)), some (.inl x1), some (.inl 3), none] [.inl (σ 2 j4)] σ _
            refine e_store (ls' := [some (.inr (some 1)), some (.inl x1), some (.inl 3), some (.inl (σ 2 j4))]) q_11 rfl (Nat.le_of_ble_eq_true rfl) rfl rfl ?_
            refine e_load q_11 rfl rfl rfl ?_
            refine e_if (P := (3 : Int32) = 0) q_11 rfl m_c0 (fun c => absurd c (by decide)) (fun _ => ?_)
            refine e_load q_11 rfl rfl rfl ?_
            refine e_load q_11 rfl rfl rfl ?_
            refine e_icmp (P := 3 = (σ 2 j4)) q_11 rfl m_c0 (fun c => ?_) (fun c => ?_)
            · replace h := h.1 c
              refine e_push q_11 rfl ?_
              refine e_goto q_11 rfl ?_
              refine e_zreturn q_11 rfl rfl (by decide) ?_
              show Ev S (d + 4) 80 20 [some (.inr (some 0)), some (.inl x1), some (.inl x2)] [.inl 1] σ _
              refine e_if (P := ¬ (1 : Int32) = 0) q_80 rfl m_c1 (fun _ => ?_) (fun c => absurd (by decide) c)
              refine e_load q_80 rfl rfl rfl ?_
              refine e_load q_80 rfl rfl rfl ?_
              refine e_icmp (P := ¬ x1 = x2) q_80 rfl m_c1 (fun c => ?_) (fun c => ?_)
              · replace h := h.1 c
                refine e_load q_80 rfl rfl rfl ?_
                refine e_push q_80 rfl ?_
                refine e_load q_80 rfl rfl rfl ?_
                refine e_load q_80 rfl rfl rfl ?_
                exact e_virt q_80 rfl rfl (Nat.le_of_ble_eq_true rfl) rfl rfl (Nat.le_of_ble_eq_true rfl) rfl h
              · replace h := h.2 c
                refine e_load q_80 rfl rfl rfl ?_
                refine e_push q_80 rfl ?_
                refine e_virt q_80 rfl rfl (Nat.le_of_ble_eq_true rfl) rfl rfl (Nat.le_of_ble_eq_true rfl) rfl ?_
                show Ev S (d + 3) 105 0 [some (.inr (some 0)), some (.inl (-100003))] [] σ _
                refine e_load q_105 rfl rfl rfl ?_
                refine e_dup q_105 rfl ?_
                refine e_getI q_105 rfl rfl rfl ?_
                refine e_push q_105 rfl ?_
                refine e_bin (r := (σ 0 5) + 1) q_105 rfl rfl ?_
                refine e_putI q_105 rfl rfl rfl ?_
                refine e_load q_105 rfl rfl rfl ?_
                refine e_ireturn q_105 rfl rfl ?_
                show Ev S (d + 4) 80 31 [some (.inr (some 0)), some (.inl x1), some (.inl x2)] [.inl (-100003)] (up σ 0 5 ((σ 0 5) + 1)) _
                exact e_ireturn q_80 rfl rfl h
            · replace h := h.2 c
              refine e_load q_11 rfl rfl rfl ?_
              refine e_push q_11 rfl ?_
              refine e_icmp (P := ¬ (3 : Int32) = 1) q_11 rfl m_c1 (fun _ => ?_) (fun c => absurd (by decide) c)
              refine e_push q_11 rfl ?_
              refine e_zreturn q_11 rfl rfl (by decide) ?_
              show Ev S (d + 4) 80 20 [some (.inr (some 0)), some (.inl x1), some (.inl x2)] [.inl 0] σ _
              refine e_if (P := ¬ (0 : Int32) = 0) q_80 rfl m_c1 (fun c => absurd c (by decide)) (fun _ => ?_)
              refine e_load q_80 rfl rfl rfl ?_
              refine e_push q_80 rfl ?_
              refine e_virt q_80 rfl rfl (Nat.le_of_ble_eq_true rfl) rfl rfl (Nat.le_of_ble_eq_true rfl) rfl ?_
              show Ev S (d + 3) 105 0 [some (.inr (some 0)), some (.inl (-100004))] [] σ _
              refine e_load q_105 rfl rfl rfl ?_
              refine e_dup q_105 rfl ?_
              refine e_getI q_105 rfl rfl rfl ?_
              refine e_push q_105 rfl ?_
              refine e_bin (r := (σ 0 5) + 1) q_105 rfl rfl ?_
              refine e_putI q_105 rfl rfl rfl ?_
              refine e_load q_105 rfl rfl rfl ?_
              refine e_ireturn q_105 rfl rfl ?_
              show Ev S (d + 4) 80 24 [some (.inr (some 0)), some (.inl x1), some (.inl x2)] [.inl (-100004)] (up σ 0 5 ((σ 0 5) + 1)) _
              exact e_ireturn q_80 rfl rfl h
          · replace h := h.2 c
            refine e_push q_106 rfl ?_
            refine e_goto q_106 rfl ?_
            refine e_zreturn q_106 rfl rfl (by decide) ?_
            show Ev S (d + 4) 80 10 [some (.inr (some 0)), some (.inl x1), some (.inl x2)] [.inl 1] σ _
            refine e_if (P := (1 : Int32) = 0) q_80 rfl m_c0 (fun c => absurd c (by decide)) (fun _ => ?_)
            refine e_load q_80 rfl rfl rfl ?_
            refine e_push q_80 rfl ?_
            refine e_virt q_80 rfl rfl (Nat.le_of_ble_eq_true rfl) rfl rfl (Nat.le_of_ble_eq_true rfl) rfl ?_
            show Ev S (d + 3) 105 0 [some (.inr (some 0)), some (.inl (-100001))] [] σ _
            refine e_load q_105 rfl rfl rfl ?_
            refine e_dup q_105 rfl ?_
            refine e_getI q_105 rfl rfl rfl ?_
            refine e_push q_105 rfl ?_
            refine e_bin (r := (σ 0 5) + 1) q_105 rfl rfl ?_
            refine e_putI q_105 rfl rfl rfl ?_
            refine e_load q_105 rfl rfl rfl ?_
            refine e_ireturn q_105 rfl rfl ?_
            show Ev S (d + 4) 80 14 [some (.inr (some 0)), some (.inl x1), some (.inl x2)] [.inl (-100001)] (up σ 0 5 ((σ 0 5) + 1)) _
            exact e_ireturn q_80 rfl rfl h
    · replace h := h.2 c
      refine e_push q_106 rfl ?_
      refine e_goto q_106 rfl ?_
      refine e_zreturn q_106 rfl rfl (by decide) ?_
      show Ev S (d + 4) 80 3 [some (.inr (some 0)), some (.inl x1), some (.inl x2)] [.inl 1] σ _
      refine e_if (P := ¬ (1 : Int32) = 0) q_80 rfl m_c1 (fun _ => ?_) (fun c => absurd (by decide) c)
      refine e_load q_80 rfl rfl rfl ?_
      refine e_push q_80 rfl ?_
      refine e_virt q_80 rfl rfl (Nat.le_of_ble_eq_true rfl) rfl rfl (Nat.le_of_ble_eq_true rfl) rfl ?_
      show Ev S (d + 3) 105 0 [some (.inr (some 0)), some (.inl (-100001))] [] σ _
      refine e_load q_105 rfl rfl rfl ?_
      refine e_dup q_105 rfl ?_
      refine e_getI q_105 rfl rfl rfl ?_
      refine e_push q_105 rfl ?_
      refine e_bin (r := (σ 0 5) + 1) q_105 rfl rfl ?_
      refine e_putI q_105 rfl rfl rfl ?_
      refine e_load q_105 rfl rfl rfl ?_
      refine e_ireturn q_105 rfl rfl ?_
      show Ev S (d + 4) 80 14 [some (.inr (some 0)), some (.inl x1), some (.inl x2)] [.inl (-100001)] (up σ 0 5 ((σ 0 5) + 1)) _
      exact e_ireturn q_80 rfl rfl h
theorem g_80_37 {S : Nat × (Nat → Int32)} {d : Nat} {σ : Mem} {Q : MQ1} {o0 : Option MV} {o1 : Option MV} {o2 : Option MV} {y0 : Int32}  (h : Q [.inl y0] σ) : Ev S (d + 4) 80 37 [o0, o1, o2] [.inl y0] σ Q := by
  exact e_ireturn q_80 rfl rfl h
theorem g_81_0 {S : Nat × (Nat → Int32)} {d : Nat} {σ : Mem} {Q : MQ1} {x1 : Int32} {x2 : Int32}  (h : ((x1 < 0 → Q [.inl (-100001)] (up σ 0 5 ((σ 0 5) + 1))) ∧ (¬ (x1 < 0) → ((x1 < (σ 2 80) → ((x2 < 0 → Q [.inl (-100001)] (up σ 0 5 ((σ 0 5) + 1))) ∧ (¬ (x2 < 0) → ((x2 ≤ 7 → (∃ j2 : Nat, (x2 * 8) + x1 = nI j2 ∧ j2 < 81 ∧ Q [.inl (σ 2 j2)] σ)) ∧ (¬ (x2 ≤ 7) → Q [.inl (-100001)] (up σ 0 5 ((σ 0 5) + 1))))))) ∧ (¬ (x1 < (σ 2 80)) → Q [.inl (-100001)] (up σ 0 5 ((σ 0 5) + 1))))))) : Ev S (d + 2) 81 0 [some (.inr (some 0)), some (.inl x1), some (.inl x2)] [] σ Q := by
  refine e_load q_81 rfl rfl rfl ?_
  refine e_load q_81 rfl rfl rfl ?_
  refine e_virt q_81 rfl rfl (Nat.le_of_ble_eq_true rfl) rfl rfl (Nat.le_of_ble_eq_true rfl) rfl ?_
  show Ev S (d + 1) 106 0 [some (.inr (some 0)), some (.inl x1)] [] σ _
  refine e_load q_106 rfl rfl rfl ?_
  refine e_if (P := x1 < 0) q_106 rfl m_c2 (fun c => ?_) (fun c => ?_)
  · replace h := h.1 c
    refine e_push q_106 rfl ?_
    refine e_goto q_106 rfl ?_
    refine e_zreturn q_106 rfl rfl (by decide) ?_
    show Ev S (d + 2) 81 3 [some (.inr (some 0)), some (.inl x1), some (.inl x2)] [.inl 1] σ _
    refine e_if (P := ¬ (1 : Int32) = 0) q_81 rfl m_c1 (fun _ => ?_) (fun c => absurd (by decide) c)
    refine e_load q_81 rfl rfl rfl ?_
    refine e_push q_81 rfl ?_
    refine e_virt q_81 rfl rfl (Nat.le_of_ble_eq_true rfl) rfl rfl (Nat.le_of_ble_eq_true rfl) rfl ?_
    show Ev S (d + 1) 105 0 [some (.inr (some 0)), some (.inl (-100001))] [] σ _
    refine e_load q_105 rfl rfl rfl ?_
    refine e_dup q_105 rfl ?_
    refine e_getI q_105 rfl rfl rfl ?_
    refine e_push q_105 rfl ?_
    refine e_bin (r := (σ 0 5) + 1) q_105 rfl rfl ?_
    refine e_putI q_105 rfl rfl rfl ?_
    refine e_load q_105 rfl rfl rfl ?_
    refine e_ireturn q_105 rfl rfl ?_
    show Ev S (d + 2) 81 12 [some (.inr (some 0)), some (.inl x1), some (.inl x2)] [.inl (-100001)] (up σ 0 5 ((σ 0 5) + 1)) _
    exact e_ireturn q_81 rfl rfl h
  · replace h := h.2 c
    refine e_load q_106 rfl rfl rfl ?_
    refine e_load q_106 rfl rfl rfl ?_
    refine e_getR q_106 rfl rfl rfl ?_
    refine e_virt q_106 rfl rfl (Nat.le_of_ble_eq_true rfl) rfl rfl (Nat.le_of_ble_eq_true rfl) rfl ?_
    show Ev S d 7 0 [some (.inr (some 1))] [] σ _
    refine e_load q_7 rfl rfl rfl ?_
    refine e_getR q_7 rfl rfl rfl ?_
    refine e_push q_7 rfl ?_
    refine e_iald (j := 80) q_7 rfl rfl (by decide) (by decide +kernel) (by decide) ?_
    refine e_ireturn q_7 rfl rfl ?_
    show Ev S (d + 1) 106 6 [some (.inr (some 0)), some (.inl x1)] [.inl (σ 2 80), .inl x1] σ _
    refine e_icmp (P := x1 < (σ 2 80)) q_106 rfl m_c2 (fun c => ?_) (fun c => ?_)
    · replace h := h.1 c
      refine e_push q_106 rfl ?_
      refine e_zreturn q_106 rfl rfl (by decide) ?_
      show Ev S (d + 2) 81 3 [some (.inr (some 0)), some (.inl x1), some (.inl x2)] [.inl 0] σ _
      refine e_if (P := ¬ (0 : Int32) = 0) q_81 rfl m_c1 (fun c => absurd c (by decide)) (fun _ => ?_)
      refine e_load q_81 rfl rfl rfl ?_
      refine e_if (P := x2 < 0) q_81 rfl m_c2 (fun c => ?_) (fun c => ?_)
      · replace h := h.1 c
        refine e_load q_81 rfl rfl rfl ?_
        refine e_push q_81 rfl ?_
        refine e_virt q_81 rfl rfl (Nat.le_of_ble_eq_true rfl) rfl rfl (Nat.le_of_ble_eq_true rfl) rfl ?_
        show Ev S (d + 1) 105 0 [some (.inr (some 0)), some (.inl (-100001))] [] σ _
        refine e_load q_105 rfl rfl rfl ?_
        refine e_dup q_105 rfl ?_
        refine e_getI q_105 rfl rfl rfl ?_
        refine e_push q_105 rfl ?_
        refine e_bin (r := (σ 0 5) + 1) q_105 rfl rfl ?_
        refine e_putI q_105 rfl rfl rfl ?_
        refine e_load q_105 rfl rfl rfl ?_
        refine e_ireturn q_105 rfl rfl ?_
        show Ev S (d + 2) 81 12 [some (.inr (some 0)), some (.inl x1), some (.inl x2)] [.inl (-100001)] (up σ 0 5 ((σ 0 5) + 1)) _
        exact e_ireturn q_81 rfl rfl h
      · replace h := h.2 c
        refine e_load q_81 rfl rfl rfl ?_
        refine e_push q_81 rfl ?_
        refine e_icmp (P := x2 ≤ 7) q_81 rfl m_c5 (fun c => ?_) (fun c => ?_)
        · replace h := h.1 c
          refine e_load q_81 rfl rfl rfl ?_
          refine e_getR q_81 rfl rfl rfl ?_
          refine e_load q_81 rfl rfl rfl ?_
          refine e_load q_81 rfl rfl rfl ?_
          refine e_virt q_81 rfl rfl (Nat.le_of_ble_eq_true rfl) rfl rfl (Nat.le_of_ble_eq_true rfl) rfl ?_
          show Ev S (d + 1) 8 0 [some (.inr (some 1)), some (.inl x2), some (.inl x1)] [] σ _
          refine e_load q_8 rfl rfl rfl ?_
          refine e_getR q_8 rfl rfl rfl ?_
          refine e_load q_8 rfl rfl rfl ?_
          refine e_push q_8 rfl ?_
          refine e_bin (r := x2 * 8) q_8 rfl rfl ?_
          refine e_load q_8 rfl rfl rfl ?_
          refine e_bin (r := (x2 * 8) + x1) q_8 rfl rfl ?_
          obtain ⟨j2, hjj2, hlj2, h⟩ := h
          refine e_iald q_8 rfl rfl (by decide) hjj2 hlj2 ?_
          refine e_ireturn q_8 rfl rfl ?_
          show Ev S (d + 2) 81 18 [some (.inr (some 0)), some (.inl x1), some (.inl x2)] [.inl (σ 2 j2)] σ _
          exact e_ireturn q_81 rfl rfl h
        · replace h := h.2 c
          refine e_load q_81 rfl rfl rfl ?_
          refine e_push q_81 rfl ?_
          refine e_virt q_81 rfl rfl (Nat.le_of_ble_eq_true rfl) rfl rfl (Nat.le_of_ble_eq_true rfl) rfl ?_
          show Ev S (d + 1) 105 0 [some (.inr (some 0)), some (.inl (-100001))] [] σ _
          refine e_load q_105 rfl rfl rfl ?_
          refine e_dup q_105 rfl ?_
          refine e_getI q_105 rfl rfl rfl ?_
          refine e_push q_105 rfl ?_
          refine e_bin (r := (σ 0 5) + 1) q_105 rfl rfl ?_
          refine e_putI q_105 rfl rfl rfl ?_
          refine e_load q_105 rfl rfl rfl ?_
          refine e_ireturn q_105 rfl rfl ?_
          show Ev S (d + 2) 81 12 [some (.inr (some 0)), some (.inl x1), some (.inl x2)] [.inl (-100001)] (up σ 0 5 ((σ 0 5) + 1)) _
          exact e_ireturn q_81 rfl rfl h
    · replace h := h.2 c
      refine e_push q_106 rfl ?_
      refine e_goto q_106 rfl ?_
      refine e_zreturn q_106 rfl rfl (by decide) ?_
      show Ev S (d + 2) 81 3 [some (.inr (some 0)), some (.inl x1), some (.inl x2)] [.inl 1] σ _
      refine e_if (P := ¬ (1 : Int32) = 0) q_81 rfl m_c1 (fun _ => ?_) (fun c => absurd (by decide) c)
      refine e_load q_81 rfl rfl rfl ?_
      refine e_push q_81 rfl ?_
      refine e_virt q_81 rfl rfl (Nat.le_of_ble_eq_true rfl) rfl rfl (Nat.le_of_ble_eq_true rfl) rfl ?_
      show Ev S (d + 1) 105 0 [some (.inr (some 0)), some (.inl (-100001))] [] σ _
      refine e_load q_105 rfl rfl rfl ?_
      refine e_dup q_105 rfl ?_
      refine e_getI q_105 rfl rfl rfl ?_
      refine e_push q_105 rfl ?_
      refine e_bin (r := (σ 0 5) + 1) q_105 rfl rfl ?_
      refine e_putI q_105 rfl rfl rfl ?_
      refine e_load q_105 rfl rfl rfl ?_
      refine e_ireturn q_105 rfl rfl ?_
      show Ev S (d + 2) 81 12 [some (.inr (some 0)), some (.inl x1), some (.inl x2)] [.inl (-100001)] (up σ 0 5 ((σ 0 5) + 1)) _
      exact e_ireturn q_81 rfl rfl h
theorem g_82_0 {S : Nat × (Nat → Int32)} {d : Nat} {σ : Mem} {Q : MQ1} {x1 : Int32} {x2 : Int32}  (h : ((x1 < 0 → Q [.inl (-100001)] (up σ 0 5 ((σ 0 5) + 1))) ∧ (¬ (x1 < 0) → ((x1 < 6 → ((x2 < 0 → Q [.inl (-100001)] (up σ 0 5 ((σ 0 5) + 1))) ∧ (¬ (x2 < 0) → ((x2 ≤ 40 → Ec S (d + 2) 26 [.inr (some 24), .inr (some 1)] σ (fun rv σ' => Ev S (d + 3) 82 17 [some (.inr (some 0)), some (.inl x1), some (.inl x2), none] (rv ++ []) σ' Q)) ∧ (¬ (x2 ≤ 40) → Q [.inl (-100001)] (up σ 0 5 ((σ 0 5) + 1))))))) ∧ (¬ (x1 < 6) → Q [.inl (-100001)] (up σ 0 5 ((σ 0 5) + 1))))))) : Ev S (d + 3) 82 0 [some (.inr (some 0)), some (.inl x1), some (.inl x2), none] [] σ Q := by
  refine e_load q_82 rfl rfl rfl ?_
  refine e_stat q_82 rfl (Nat.le_of_ble_eq_true rfl) rfl rfl (Nat.le_of_ble_eq_true rfl) ?_
  show Ev S (d + 2) 108 0 [some (.inl x1)] [] σ _
  refine e_load q_108 rfl rfl rfl ?_
  refine e_if (P := x1 < 0) q_108 rfl m_c2 (fun c => ?_) (fun c => ?_)
  · replace h := h.1 c
    refine e_push q_108 rfl ?_
    refine e_goto q_108 rfl ?_
    refine e_zreturn q_108 rfl rfl (by decide) ?_
    show Ev S (d + 3) 82 2 [some (.inr (some 0)), some (.inl x1), some (.inl x2), none] [.inl 1] σ _
    refine e_if (P := ¬ (1 : Int32) = 0) q_82 rfl m_c1 (fun _ => ?_) (fun c => absurd (by decide) c)
    refine e_load q_82 rfl rfl rfl ?_
    refine e_push q_82 rfl ?_
    refine e_virt q_82 rfl rfl (Nat.le_of_ble_eq_true rfl) rfl rfl (Nat.le_of_ble_eq_true rfl) rfl ?_
    show Ev S (d + 2) 105 0 [some (.inr (some 0)), some (.inl (-100001))] [] σ _
    refine e_load q_105 rfl rfl rfl ?_
    refine e_dup q_105 rfl ?_
    refine e_getI q_105 rfl rfl rfl ?_
    refine e_push q_105 rfl ?_
    refine e_bin (r := (σ 0 5) + 1) q_105 rfl rfl ?_
    refine e_putI q_105 rfl rfl rfl ?_
    refine e_load q_105 rfl rfl rfl ?_
    refine e_ireturn q_105 rfl rfl ?_
    show Ev S (d + 3) 82 11 [some (.inr (some 0)), some (.inl x1), some (.inl x2), none] [.inl (-100001)] (up σ 0 5 ((σ 0 5) + 1)) _
    exact e_ireturn q_82 rfl rfl h
  · replace h := h.2 c
    refine e_load q_108 rfl rfl rfl ?_
    refine e_push q_108 rfl ?_
    refine e_icmp (P := x1 < 6) q_108 rfl m_c2 (fun c => ?_) (fun c => ?_)
    · replace h := h.1 c
      refine e_push q_108 rfl ?_
      refine e_zreturn q_108 rfl rfl (by decide) ?_
      show Ev S (d + 3) 82 2 [some (.inr (some 0)), some (.inl x1), some (.inl x2), none] [.inl 0] σ _
      refine e_if (P := ¬ (0 : Int32) = 0) q_82 rfl m_c1 (fun c => absurd c (by decide)) (fun _ => ?_)
      refine e_load q_82 rfl rfl rfl ?_
      refine e_if (P := x2 < 0) q_82 rfl m_c2 (fun c => ?_) (fun c => ?_)
      · replace h := h.1 c
        refine e_load q_82 rfl rfl rfl ?_
        refine e_push q_82 rfl ?_
        refine e_virt q_82 rfl rfl (Nat.le_of_ble_eq_true rfl) rfl rfl (Nat.le_of_ble_eq_true rfl) rfl ?_
        show Ev S (d + 2) 105 0 [some (.inr (some 0)), some (.inl (-100001))] [] σ _
        refine e_load q_105 rfl rfl rfl ?_
        refine e_dup q_105 rfl ?_
        refine e_getI q_105 rfl rfl rfl ?_
        refine e_push q_105 rfl ?_
        refine e_bin (r := (σ 0 5) + 1) q_105 rfl rfl ?_
        refine e_putI q_105 rfl rfl rfl ?_
        refine e_load q_105 rfl rfl rfl ?_
        refine e_ireturn q_105 rfl rfl ?_
        show Ev S (d + 3) 82 11 [some (.inr (some 0)), some (.inl x1), some (.inl x2), none] [.inl (-100001)] (up σ 0 5 ((σ 0 5) + 1)) _
        exact e_ireturn q_82 rfl rfl h
      · replace h := h.2 c
        refine e_load q_82 rfl rfl rfl ?_
        refine e_push q_82 rfl ?_
        refine e_icmp (P := x2 ≤ 40) q_82 rfl m_c5 (fun c => ?_) (fun c => ?_)
        · replace h := h.1 c
          refine e_load q_82 rfl rfl rfl ?_
          refine e_getR q_82 rfl rfl rfl ?_
          refine e_load q_82 rfl rfl rfl ?_
          refine e_getR q_82 rfl rfl rfl ?_
          exact e_virt q_82 rfl rfl (Nat.le_of_ble_eq_true rfl) rfl rfl (Nat.le_of_ble_eq_true rfl) rfl h
        · replace h := h.2 c
          refine e_load q_82 rfl rfl rfl ?_
          refine e_push q_82 rfl ?_
          refine e_virt q_82 rfl rfl (Nat.le_of_ble_eq_true rfl) rfl rfl (Nat.le_of_ble_eq_true rfl) rfl ?_
          show Ev S (d + 2) 105 0 [some (.inr (some 0)), some (.inl (-100001))] [] σ _
          refine e_load q_105 rfl rfl rfl ?_
          refine e_dup q_105 rfl ?_
          refine e_getI q_105 rfl rfl rfl ?_
          refine e_push q_105 rfl ?_
          refine e_bin (r := (σ 0 5) + 1) q_105 rfl rfl ?_
          refine e_putI q_105 rfl rfl rfl ?_
          refine e_load q_105 rfl rfl rfl ?_
          refine e_ireturn q_105 rfl rfl ?_
          show Ev S (d + 3) 82 11 [some (.inr (some 0)), some (.inl x1), some (.inl x2), none] [.inl (-100001)] (up σ 0 5 ((σ 0 5) + 1)) _
          exact e_ireturn q_82 rfl rfl h
    · replace h := h.2 c
      refine e_push q_108 rfl ?_
      refine e_goto q_108 rfl ?_
      refine e_zreturn q_108 rfl rfl (by decide) ?_
      show Ev S (d + 3) 82 2 [some (.inr (some 0)), some (.inl x1), some (.inl x2), none] [.inl 1] σ _
      refine e_if (P := ¬ (1 : Int32) = 0) q_82 rfl m_c1 (fun _ => ?_) (fun c => absurd (by decide) c)
      refine e_load q_82 rfl rfl rfl ?_
      refine e_push q_82 rfl ?_
      refine e_virt q_82 rfl rfl (Nat.le_of_ble_eq_true rfl) rfl rfl (Nat.le_of_ble_eq_true rfl) rfl ?_
      show Ev S (d + 2) 105 0 [some (.inr (some 0)), some (.inl (-100001))] [] σ _
      refine e_load q_105 rfl rfl rfl ?_
      refine e_dup q_105 rfl ?_
      refine e_getI q_105 rfl rfl rfl ?_
      refine e_push q_105 rfl ?_
      refine e_bin (r := (σ 0 5) + 1) q_105 rfl rfl ?_
      refine e_putI q_105 rfl rfl rfl ?_
      refine e_load q_105 rfl rfl rfl ?_
      refine e_ireturn q_105 rfl rfl ?_
      show Ev S (d + 3) 82 11 [some (.inr (some 0)), some (.inl x1), some (.inl x2), none] [.inl (-100001)] (up σ 0 5 ((σ 0 5) + 1)) _
      exact e_ireturn q_82 rfl rfl h
theorem g_82_17 {S : Nat × (Nat → Int32)} {d : Nat} {σ : Mem} {Q : MQ1} {x1 : Int32} {x2 : Int32} {o3 : Option MV}  (h : (∃ j1 : Nat, 72 + x1 = nI j1 ∧ j1 < 81 ∧ (∃ j2 : Nat, 72 + x1 = nI j2 ∧ j2 < 81 ∧ Q [.inl (σ 2 j1)] (up σ 2 j2 x2)))) : Ev S (d + 3) 82 17 [some (.inr (some 0)), some (.inl x1), some (.inl x2), o3] [] σ Q := by
  refine e_load q_82 rfl rfl rfl ?_
  refine e_getR q_82 rfl rfl rfl ?_
  refine e_load q_82 rfl rfl rfl ?_
  refine e_virt q_82 rfl rfl (Nat.le_of_ble_eq_true rfl) rfl rfl (Nat.le_of_ble_eq_true rfl) rfl ?_
  show Ev S (d + 2) 16 0 [some (.inr (some 1)), some (.inl x1)] [] σ _
  refine e_load q_16 rfl rfl rfl ?_
  refine e_getR q_16 rfl rfl rfl ?_
  refine e_push q_16 rfl ?_
  refine e_load q_16 rfl rfl rfl ?_
  refine e_bin (r := 72 + x1) q_16 rfl rfl ?_
  obtain ⟨j1, hjj1, hlj1, h⟩ := h
  refine e_iald q_16 rfl rfl (by decide) hjj1 hlj1 ?_
  refine e_ireturn q_16 rfl rfl ?_
  show Ev S (d + 3) 82 21 [some (.inr (some 0)), some (.inl x1), some (.inl x2), o3] [.inl (σ 2 j1)] σ _
  refine e_store (ls' := [some (.inr (some 0)), some (.inl x1), some (.inl x2), some (.inl (σ 2 j1))]) q_82 rfl (Nat.le_of_ble_eq_true rfl) rfl rfl ?_
  refine e_load q_82 rfl rfl rfl ?_
  refine e_getR q_82 rfl rfl rfl ?_
  refine e_load q_82 rfl rfl rfl ?_
  refine e_load q_82 rfl rfl rfl ?_
  refine e_virt q_82 rfl rfl (Nat.le_of_ble_eq_true rfl) rfl rfl (Nat.le_of_ble_eq_true rfl) rfl ?_
  show Ev S (d + 2) 17 0 [some (.inr (some 1)), some (.inl x1), some (.inl x2)] [] σ _
  refine e_load q_17 rfl rfl rfl ?_
  refine e_getR q_17 rfl rfl rfl ?_
  refine e_push q_17 rfl ?_
  refine e_load q_17 rfl rfl rfl ?_
  refine e_bin (r := 72 + x1) q_17 rfl rfl ?_
  refine e_load q_17 rfl rfl rfl ?_
  obtain ⟨j2, hjj2, hlj2, h⟩ := h
  refine e_iast q_17 rfl rfl (by decide) hjj2 hlj2 ?_
  refine e_return q_17 rfl rfl ?_
  show Ev S (d + 3) 82 27 [some (.inr (some 0)), some (.inl x1), some (.inl x2), some (.inl (σ 2 j1))] [] (up σ 2 j2 x2) _
  refine e_load q_82 rfl rfl rfl ?_
  exact e_ireturn q_82 rfl rfl h
theorem g_83_0 {S : Nat × (Nat → Int32)} {d : Nat} {σ : Mem} {Q : MQ1} {x1 : Int32} {x2 : Int32}  (h : ((x1 < 0 → Q [.inl (-100001)] (up σ 0 5 ((σ 0 5) + 1))) ∧ (¬ (x1 < 0) → ((x1 < 6 → Ec S (d + 2) 26 [.inr (some 24), .inr (some 1)] σ (fun rv σ' => Ev S (d + 3) 83 12 [some (.inr (some 0)), some (.inl x1), some (.inl x2), none] (rv ++ []) σ' Q)) ∧ (¬ (x1 < 6) → Q [.inl (-100001)] (up σ 0 5 ((σ 0 5) + 1))))))) : Ev S (d + 3) 83 0 [some (.inr (some 0)), some (.inl x1), some (.inl x2), none] [] σ Q := by
  refine e_load q_83 rfl rfl rfl ?_
  refine e_stat q_83 rfl (Nat.le_of_ble_eq_true rfl) rfl rfl (Nat.le_of_ble_eq_true rfl) ?_
  show Ev S (d + 2) 108 0 [some (.inl x1)] [] σ _
  refine e_load q_108 rfl rfl rfl ?_
  refine e_if (P := x1 < 0) q_108 rfl m_c2 (fun c => ?_) (fun c => ?_)
  · replace h := h.1 c
    refine e_push q_108 rfl ?_
    refine e_goto q_108 rfl ?_
    refine e_zreturn q_108 rfl rfl (by decide) ?_
    show Ev S (d + 3) 83 2 [some (.inr (some 0)), some (.inl x1), some (.inl x2), none] [.inl 1] σ _
    refine e_if (P := (1 : Int32) = 0) q_83 rfl m_c0 (fun c => absurd c (by decide)) (fun _ => ?_)
    refine e_load q_83 rfl rfl rfl ?_
    refine e_push q_83 rfl ?_
    refine e_virt q_83 rfl rfl (Nat.le_of_ble_eq_true rfl) rfl rfl (Nat.le_of_ble_eq_true rfl) rfl ?_
    show Ev S (d + 2) 105 0 [some (.inr (some 0)), some (.inl (-100001))] [] σ _
    refine e_load q_105 rfl rfl rfl ?_
    refine e_dup q_105 rfl ?_
    refine e_getI q_105 rfl rfl rfl ?_
    refine e_push q_105 rfl ?_
    refine e_bin (r := (σ 0 5) + 1) q_105 rfl rfl ?_
    refine e_putI q_105 rfl rfl rfl ?_
    refine e_load q_105 rfl rfl rfl ?_
    refine e_ireturn q_105 rfl rfl ?_
    show Ev S (d + 3) 83 6 [some (.inr (some 0)), some (.inl x1), some (.inl x2), none] [.inl (-100001)] (up σ 0 5 ((σ 0 5) + 1)) _
    exact e_ireturn q_83 rfl rfl h
  · replace h := h.2 c
    refine e_load q_108 rfl rfl rfl ?_
    refine e_push q_108 rfl ?_
    refine e_icmp (P := x1 < 6) q_108 rfl m_c2 (fun c => ?_) (fun c => ?_)
    · replace h := h.1 c
      refine e_push q_108 rfl ?_
      refine e_zreturn q_108 rfl rfl (by decide) ?_
      show Ev S (d + 3) 83 2 [some (.inr (some 0)), some (.inl x1), some (.inl x2), none] [.inl 0] σ _
      refine e_if (P := (0 : Int32) = 0) q_83 rfl m_c0 (fun _ => ?_) (fun c => absurd (by decide) c)
      refine e_load q_83 rfl rfl rfl ?_
      refine e_getR q_83 rfl rfl rfl ?_
      refine e_load q_83 rfl rfl rfl ?_
      refine e_getR q_83 rfl rfl rfl ?_
      exact e_virt q_83 rfl rfl (Nat.le_of_ble_eq_true rfl) rfl rfl (Nat.le_of_ble_eq_true rfl) rfl h
    · replace h := h.2 c
      refine e_push q_108 rfl ?_
      refine e_goto q_108 rfl ?_
      refine e_zreturn q_108 rfl rfl (by decide) ?_
      show Ev S (d + 3) 83 2 [some (.inr (some 0)), some (.inl x1), some (.inl x2), none] [.inl 1] σ _
      refine e_if (P := (1 : Int32) = 0) q_83 rfl m_c0 (fun c => absurd c (by decide)) (fun _ => ?_)
      refine e_load q_83 rfl rfl rfl ?_
      refine e_push q_83 rfl ?_
      refine e_virt q_83 rfl rfl (Nat.le_of_ble_eq_true rfl) rfl rfl (Nat.le_of_ble_eq_true rfl) rfl ?_
      show Ev S (d + 2) 105 0 [some (.inr (some 0)), some (.inl (-100001))] [] σ _
      refine e_load q_105 rfl rfl rfl ?_
      refine e_dup q_105 rfl ?_
      refine e_getI q_105 rfl rfl rfl ?_
      refine e_push q_105 rfl ?_
      refine e_bin (r := (σ 0 5) + 1) q_105 rfl rfl ?_
      refine e_putI q_105 rfl rfl rfl ?_
      refine e_load q_105 rfl rfl rfl ?_
      refine e_ireturn q_105 rfl rfl ?_
      show Ev S (d + 3) 83 6 [some (.inr (some 0)), some (.inl x1), some (.inl x2), none] [.inl (-100001)] (up σ 0 5 ((σ 0 5) + 1)) _
      exact e_ireturn q_83 rfl rfl h
theorem g_83_12 {S : Nat × (Nat → Int32)} {d : Nat} {σ : Mem} {Q : MQ1} {x1 : Int32} {x2 : Int32} {o3 : Option MV}  (h : (((((σ 2 78) >>> (x1 &&& 31)) &&& 1) = 0 → ((0 = x2 → ((x2 = 0 → Q [.inl 0] (up σ 2 78 ((σ 2 78) &&& ((1 <<< (x1 &&& 31)) ^^^ (-1))))) ∧ (¬ (x2 = 0) → Q [.inl 0] (up σ 2 78 ((σ 2 78) ||| (1 <<< (x1 &&& 31))))))) ∧ (¬ (0 = x2) → ((x2 = 0 → Q [.inl 1] (up σ 2 78 ((σ 2 78) &&& ((1 <<< (x1 &&& 31)) ^^^ (-1))))) ∧ (¬ (x2 = 0) → Q [.inl 1] (up σ 2 78 ((σ 2 78) ||| (1 <<< (x1 &&& 31))))))))) ∧ (¬ ((((σ 2 78) >>> (x1 &&& 31)) &&& 1) = 0) → ((1 = x2 → ((x2 = 0 → Q [.inl 0] (up σ 2 78 ((σ 2 78) &&& ((1 <<< (x1 &&& 31)) ^^^ (-1))))) ∧ (¬ (x2 = 0) → Q [.inl 0] (up σ 2 78 ((σ 2 78) ||| (1 <<< (x1 &&& 31))))))) ∧ (¬ (1 = x2) → ((x2 = 0 → Q [.inl 1] (up σ 2 78 ((σ 2 78) &&& ((1 <<< (x1 &&& 31)) ^^^ (-1))))) ∧ (¬ (x2 = 0) → Q [.inl 1] (up σ 2 78 ((σ 2 78) ||| (1 <<< (x1 &&& 31))))))))))) : Ev S (d + 3) 83 12 [some (.inr (some 0)), some (.inl x1), some (.inl x2), o3] [] σ Q := by
  refine e_load q_83 rfl rfl rfl ?_
  refine e_getR q_83 rfl rfl rfl ?_
  refine e_load q_83 rfl rfl rfl ?_
  refine e_virt q_83 rfl rfl (Nat.le_of_ble_eq_true rfl) rfl rfl (Nat.le_of_ble_eq_true rfl) rfl ?_
  show Ev S (d + 2) 18 0 [some (.inr (some 1)), some (.inl x1)] [] σ _
  refine e_load q_18 rfl rfl rfl ?_
  refine e_getR q_18 rfl rfl rfl ?_
  refine e_push q_18 rfl ?_
  refine e_iald (j := 78) q_18 rfl rfl (by decide) (by decide +kernel) (by decide) ?_
  refine e_load q_18 rfl rfl rfl ?_
  refine e_stat q_18 rfl (Nat.le_of_ble_eq_true rfl) rfl rfl (Nat.le_of_ble_eq_true rfl) ?_
  show Ev S (d + 1) 110 0 [some (.inl (σ 2 78)), some (.inl x1)] [] σ _
  refine e_load q_110 rfl rfl rfl ?_
  refine e_load q_110 rfl rfl rfl ?_
  refine e_bin (r := (σ 2 78) >>> (x1 &&& 31)) q_110 rfl rfl ?_
  refine e_push q_110 rfl ?_
  refine e_bin (r := ((σ 2 78) >>> (x1 &&& 31)) &&& 1) q_110 rfl rfl ?_
  refine e_if (P := (((σ 2 78) >>> (x1 &&& 31)) &&& 1) = 0) q_110 rfl m_c0 (fun c => ?_) (fun c => ?_)
  · replace h := h.1 c
    refine e_push q_110 rfl ?_
    refine e_zreturn q_110 rfl rfl (by decide) ?_
    show Ev S (d + 2) 18 6 [some (.inr (some 1)), some (.inl x1)] [.inl 0] σ _
    refine e_zreturn q_18 rfl rfl (by decide) ?_
    show Ev S (d + 3) 83 16 [some (.inr (some 0)), some (.inl x1), some (.inl x2), o3] [.inl 0] σ _
    refine e_load q_83 rfl rfl rfl ?_
    refine e_icmp (P := 0 = x2) q_83 rfl m_c0 (fun c => ?_) (fun c => ?_)
    · replace h := h.1 c
      refine e_push q_83 rfl ?_
      refine e_store (ls' := [some (.inr (some 0)), some (.inl x1), some (.inl x2), some (.inl 0)]) q_83 rfl (Nat.le_of_ble_eq_true rfl) rfl rfl ?_
      refine e_load q_83 rfl rfl rfl ?_
      refine e_getR q_83 rfl rfl rfl ?_
      refine e_load q_83 rfl rfl rfl ?_
      refine e_load q_83 rfl rfl rfl ?_
      refine e_virt q_83 rfl rfl (Nat.le_of_ble_eq_true rfl) rfl rfl (Nat.le_of_ble_eq_true rfl) rfl ?_
      show Ev S (d + 2) 19 0 [some (.inr (some 1)), some (.inl x1), some (.inl x2)] [] σ _
      refine e_load q_19 rfl rfl rfl ?_
      refine e_getR q_19 rfl rfl rfl ?_
      refine e_push q_19 rfl ?_
      refine e_load q_19 rfl rfl rfl ?_
      refine e_getR q_19 rfl rfl rfl ?_
      refine e_push q_19 rfl ?_
      refine e_iald (j := 78) q_19 rfl rfl (by decide) (by decide +kernel) (by decide) ?_
      refine e_load q_19 rfl rfl rfl ?_
      refine e_load q_19 rfl rfl rfl ?_
      refine e_stat q_19 rfl (Nat.le_of_ble_eq_true rfl) rfl rfl (Nat.le_of_ble_eq_true rfl) ?_
      show Ev S (d + 1) 111 0 [some (.inl (σ 2 78)), some (.inl x1), some (.inl x2)] [] σ _
      refine e_load q_111 rfl rfl rfl ?_
      refine e_if (P := x2 = 0) q_111 rfl m_c0 (fun c => ?_) (fun c => ?_)
      · replace h := h.1 c
        refine e_load q_111 rfl rfl rfl ?_
        refine e_push q_111 rfl ?_
        refine e_load q_111 rfl rfl rfl ?_
        refine e_bin (r := 1 <<< (x1 &&& 31)) q_111 rfl rfl ?_
        refine e_push q_111 rfl ?_
        refine e_bin (r := (1 <<< (x1 &&& 31)) ^^^ (-1)) q_111 rfl rfl ?_
        refine e_bin (r := (σ 2 78) &&& ((1 <<< (x1 &&& 31)) ^^^ (-1))) q_111 rfl rfl ?_
        refine e_ireturn q_111 rfl rfl ?_
        show Ev S (d + 2) 19 10 [some (.inr (some 1)), some (.inl x1), some (.inl x2)] [.inl ((σ 2 78) &&& ((1 <<< (x1 &&& 31)) ^^^ (-1))), .inl 78, .inr (some 2)] σ _
        refine e_iast (j := 78) q_19 rfl rfl (by decide) (by decide +kernel) (by decide) ?_
        refine e_return q_19 rfl rfl ?_
        show Ev S (d + 3) 83 27 [some (.inr (some 0)), some (.inl x1), some (.inl x2), some (.inl 0)] [] (up σ 2 78 ((σ 2 78) &&& ((1 <<< (x1 &&& 31)) ^^^ (-1)))) _
        refine e_load q_83 rfl rfl rfl ?_
        refine e_if (P := (0 : Int32) = 0) q_83 rfl m_c0 (fun _ => ?_) (fun c => absurd (by decide) c)
        refine e_push q_83 rfl ?_
        exact e_ireturn q_83 rfl rfl h
      · replace h := h.2 c
        refine e_load q_111 rfl rfl rfl ?_
        refine e_push q_111 rfl ?_
        refine e_load q_111 rfl rfl rfl ?_
        refine e_bin (r := 1 <<< (x1 &&& 31)) q_111 rfl rfl ?_
        refine e_bin (r := (σ 2 78) ||| (1 <<< (x1 &&& 31))) q_111 rfl rfl ?_
        refine e_goto q_111 rfl ?_
        refine e_ireturn q_111 rfl rfl ?_
        show Ev S (d + 2) 19 10 [some (.inr (some 1)), some (.inl x1), some (.inl x2)] [.inl ((σ 2 78) ||| (1 <<< (x1 &&& 31))), .inl 78, .inr (some 2)] σ _
        refine e_iast (j := 78) q_19 rfl rfl (by decide) (by decide +kernel) (by decide) ?_
        refine e_return q_19 rfl rfl ?_
        show Ev S (d + 3) 83 27 [some (.inr (some 0)), some (.inl x1), some (.inl x2), some (.inl 0)] [] (up σ 2 78 ((σ 2 78) ||| (1 <<< (x1 &&& 31)))) _
        refine e_load q_83 rfl rfl rfl ?_
        refine e_if (P := (0 : Int32) = 0) q_83 rfl m_c0 (fun _ => ?_) (fun c => absurd (by decide) c)
        refine e_push q_83 rfl ?_
        exact e_ireturn q_83 rfl rfl h
    · replace h := h.2 c
      refine e_push q_83 rfl ?_
      refine e_goto q_83 rfl ?_
      refine e_store (ls' := [some (.inr (some 0)), some (.inl x1), some (.inl x2), some (.inl 1)]) q_83 rfl (Nat.le_of_ble_eq_true rfl) rfl rfl ?_
      refine e_load q_83 rfl rfl rfl ?_
      refine e_getR q_83 rfl rfl rfl ?_
      refine e_load q_83 rfl rfl rfl ?_
      refine e_load q_83 rfl rfl rfl ?_
      refine e_virt q_83 rfl rfl (Nat.le_of_ble_eq_true rfl) rfl rfl (Nat.le_of_ble_eq_true rfl) rfl ?_
      show Ev S (d + 2) 19 0 [some (.inr (some 1)), some (.inl x1), some (.inl x2)] [] σ _
      refine e_load q_19 rfl rfl rfl ?_
      refine e_getR q_19 rfl rfl rfl ?_
      refine e_push q_19 rfl ?_
      refine e_load q_19 rfl rfl rfl ?_
      refine e_getR q_19 rfl rfl rfl ?_
      refine e_push q_19 rfl ?_
      refine e_iald (j := 78) q_19 rfl rfl (by decide) (by decide +kernel) (by decide) ?_
      refine e_load q_19 rfl rfl rfl ?_
      refine e_load q_19 rfl rfl rfl ?_
      refine e_stat q_19 rfl (Nat.le_of_ble_eq_true rfl) rfl rfl (Nat.le_of_ble_eq_true rfl) ?_
      show Ev S (d + 1) 111 0 [some (.inl (σ 2 78)), some (.inl x1), some (.inl x2)] [] σ _
      refine e_load q_111 rfl rfl rfl ?_
      refine e_if (P := x2 = 0) q_111 rfl m_c0 (fun c => ?_) (fun c => ?_)
      · replace h := h.1 c
        refine e_load q_111 rfl rfl rfl ?_
        refine e_push q_111 rfl ?_
        refine e_load q_111 rfl rfl rfl ?_
        refine e_bin (r := 1 <<< (x1 &&& 31)) q_111 rfl rfl ?_
        refine e_push q_111 rfl ?_
        refine e_bin (r := (1 <<< (x1 &&& 31)) ^^^ (-1)) q_111 rfl rfl ?_
        refine e_bin (r := (σ 2 78) &&& ((1 <<< (x1 &&& 31)) ^^^ (-1))) q_111 rfl rfl ?_
        refine e_ireturn q_111 rfl rfl ?_
        show Ev S (d + 2) 19 10 [some (.inr (some 1)), some (.inl x1), some (.inl x2)] [.inl ((σ 2 78) &&& ((1 <<< (x1 &&& 31)) ^^^ (-1))), .inl 78, .inr (some 2)] σ _
        refine e_iast (j := 78) q_19 rfl rfl (by decide) (by decide +kernel) (by decide) ?_
        refine e_return q_19 rfl rfl ?_
        show Ev S (d + 3) 83 27 [some (.inr (some 0)), some (.inl x1), some (.inl x2), some (.inl 1)] [] (up σ 2 78 ((σ 2 78) &&& ((1 <<< (x1 &&& 31)) ^^^ (-1)))) _
        refine e_load q_83 rfl rfl rfl ?_
        refine e_if (P := (1 : Int32) = 0) q_83 rfl m_c0 (fun c => absurd c (by decide)) (fun _ => ?_)
        refine e_push q_83 rfl ?_
        refine e_goto q_83 rfl ?_
        exact e_ireturn q_83 rfl rfl h
      · replace h := h.2 c
        refine e_load q_111 rfl rfl rfl ?_
        refine e_push q_111 rfl ?_
        refine e_load q_111 rfl rfl rfl ?_
        refine e_bin (r := 1 <<< (x1 &&& 31)) q_111 rfl rfl ?_
        refine e_bin (r := (σ 2 78) ||| (1 <<< (x1 &&& 31))) q_111 rfl rfl ?_
        refine e_goto q_111 rfl ?_
        refine e_ireturn q_111 rfl rfl ?_
        show Ev S (d + 2) 19 10 [some (.inr (some 1)), some (.inl x1), some (.inl x2)] [.inl ((σ 2 78) ||| (1 <<< (x1 &&& 31))), .inl 78, .inr (some 2)] σ _
        refine e_iast (j := 78) q_19 rfl rfl (by decide) (by decide +kernel) (by decide) ?_
        refine e_return q_19 rfl rfl ?_
        show Ev S (d + 3) 83 27 [some (.inr (some 0)), some (.inl x1), some (.inl x2), some (.inl 1)] [] (up σ 2 78 ((σ 2 78) ||| (1 <<< (x1 &&& 31)))) _
        refine e_load q_83 rfl rfl rfl ?_
        refine e_if (P := (1 : Int32) = 0) q_83 rfl m_c0 (fun c => absurd c (by decide)) (fun _ => ?_)
        refine e_push q_83 rfl ?_
        refine e_goto q_83 rfl ?_
        exact e_ireturn q_83 rfl rfl h
  · replace h := h.2 c
    refine e_push q_110 rfl ?_
    refine e_goto q_110 rfl ?_
    refine e_zreturn q_110 rfl rfl (by decide) ?_
    show Ev S (d + 2) 18 6 [some (.inr (some 1)), some (.inl x1)] [.inl 1] σ _
    refine e_zreturn q_18 rfl rfl (by decide) ?_
    show Ev S (d + 3) 83 16 [some (.inr (some 0)), some (.inl x1), some (.inl x2), o3] [.inl 1] σ _
    refine e_load q_83 rfl rfl rfl ?_
    refine e_icmp (P := 1 = x2) q_83 rfl m_c0 (fun c => ?_) (fun c => ?_)
    · replace h := h.1 c
      refine e_push q_83 rfl ?_
      refine e_store (ls' := [some (.inr (some 0)), some (.inl x1), some (.inl x2), some (.inl 0)]) q_83 rfl (Nat.le_of_ble_eq_true rfl) rfl rfl ?_
      refine e_load q_83 rfl rfl rfl ?_
      refine e_getR q_83 rfl rfl rfl ?_
      refine e_load q_83 rfl rfl rfl ?_
      refine e_load q_83 rfl rfl rfl ?_
      refine e_virt q_83 rfl rfl (Nat.le_of_ble_eq_true rfl) rfl rfl (Nat.le_of_ble_eq_true rfl) rfl ?_
      show Ev S (d + 2) 19 0 [some (.inr (some 1)), some (.inl x1), some (.inl x2)] [] σ _
      refine e_load q_19 rfl rfl rfl ?_
      refine e_getR q_19 rfl rfl rfl ?_
      refine e_push q_19 rfl ?_
      refine e_load q_19 rfl rfl rfl ?_
      refine e_getR q_19 rfl rfl rfl ?_
      refine e_push q_19 rfl ?_
      refine e_iald (j := 78) q_19 rfl rfl (by decide) (by decide +kernel) (by decide) ?_
      refine e_load q_19 rfl rfl rfl ?_
      refine e_load q_19 rfl rfl rfl ?_
      refine e_stat q_19 rfl (Nat.le_of_ble_eq_true rfl) rfl rfl (Nat.le_of_ble_eq_true rfl) ?_
      show Ev S (d + 1) 111 0 [some (.inl (σ 2 78)), some (.inl x1), some (.inl x2)] [] σ _
      refine e_load q_111 rfl rfl rfl ?_
      refine e_if (P := x2 = 0) q_111 rfl m_c0 (fun c => ?_) (fun c => ?_)
      · replace h := h.1 c
        refine e_load q_111 rfl rfl rfl ?_
        refine e_push q_111 rfl ?_
        refine e_load q_111 rfl rfl rfl ?_
        refine e_bin (r := 1 <<< (x1 &&& 31)) q_111 rfl rfl ?_
        refine e_push q_111 rfl ?_
        refine e_bin (r := (1 <<< (x1 &&& 31)) ^^^ (-1)) q_111 rfl rfl ?_
        refine e_bin (r := (σ 2 78) &&& ((1 <<< (x1 &&& 31)) ^^^ (-1))) q_111 rfl rfl ?_
        refine e_ireturn q_111 rfl rfl ?_
        show Ev S (d + 2) 19 10 [some (.inr (some 1)), some (.inl x1), some (.inl x2)] [.inl ((σ 2 78) &&& ((1 <<< (x1 &&& 31)) ^^^ (-1))), .inl 78, .inr (some 2)] σ _
        refine e_iast (j := 78) q_19 rfl rfl (by decide) (by decide +kernel) (by decide) ?_
        refine e_return q_19 rfl rfl ?_
        show Ev S (d + 3) 83 27 [some (.inr (some 0)), some (.inl x1), some (.inl x2), some (.inl 0)] [] (up σ 2 78 ((σ 2 78) &&& ((1 <<< (x1 &&& 31)) ^^^ (-1)))) _
        refine e_load q_83 rfl rfl rfl ?_
        refine e_if (P := (0 : Int32) = 0) q_83 rfl m_c0 (fun _ => ?_) (fun c => absurd (by decide) c)
        refine e_push q_83 rfl ?_
        exact e_ireturn q_83 rfl rfl h
      · replace h := h.2 c
        refine e_load q_111 rfl rfl rfl ?_
        refine e_push q_111 rfl ?_
        refine e_load q_111 rfl rfl rfl ?_
        refine e_bin (r := 1 <<< (x1 &&& 31)) q_111 rfl rfl ?_
        refine e_bin (r := (σ 2 78) ||| (1 <<< (x1 &&& 31))) q_111 rfl rfl ?_
        refine e_goto q_111 rfl ?_
        refine e_ireturn q_111 rfl rfl ?_
        show Ev S (d + 2) 19 10 [some (.inr (some 1)), some (.inl x1), some (.inl x2)] [.inl ((σ 2 78) ||| (1 <<< (x1 &&& 31))), .inl 78, .inr (some 2)] σ _
        refine e_iast (j := 78) q_19 rfl rfl (by decide) (by decide +kernel) (by decide) ?_
        refine e_return q_19 rfl rfl ?_
        show Ev S (d + 3) 83 27 [some (.inr (some 0)), some (.inl x1), some (.inl x2), some (.inl 0)] [] (up σ 2 78 ((σ 2 78) ||| (1 <<< (x1 &&& 31)))) _
        refine e_load q_83 rfl rfl rfl ?_
        refine e_if (P := (0 : Int32) = 0) q_83 rfl m_c0 (fun _ => ?_) (fun c => absurd (by decide) c)
        refine e_push q_83 rfl ?_
        exact e_ireturn q_83 rfl rfl h
    · replace h := h.2 c
      refine e_push q_83 rfl ?_
      refine e_goto q_83 rfl ?_
      refine e_store (ls' := [some (.inr (some 0)), some (.inl x1), some (.inl x2), some (.inl 1)]) q_83 rfl (Nat.le_of_ble_eq_true rfl) rfl rfl ?_
      refine e_load q_83 rfl rfl rfl ?_
      refine e_getR q_83 rfl rfl rfl ?_
      refine e_load q_83 rfl rfl rfl ?_
      refine e_load q_83 rfl rfl rfl ?_
      refine e_virt q_83 rfl rfl (Nat.le_of_ble_eq_true rfl) rfl rfl (Nat.le_of_ble_eq_true rfl) rfl ?_
      show Ev S (d + 2) 19 0 [some (.inr (some 1)), some (.inl x1), some (.inl x2)] [] σ _
      refine e_load q_19 rfl rfl rfl ?_
      refine e_getR q_19 rfl rfl rfl ?_
      refine e_push q_19 rfl ?_
      refine e_load q_19 rfl rfl rfl ?_
      refine e_getR q_19 rfl rfl rfl ?_
      refine e_push q_19 rfl ?_
      refine e_iald (j := 78) q_19 rfl rfl (by decide) (by decide +kernel) (by decide) ?_
      refine e_load q_19 rfl rfl rfl ?_
      refine e_load q_19 rfl rfl rfl ?_
      refine e_stat q_19 rfl (Nat.le_of_ble_eq_true rfl) rfl rfl (Nat.le_of_ble_eq_true rfl) ?_
      show Ev S (d + 1) 111 0 [some (.inl (σ 2 78)), some (.inl x1), some (.inl x2)] [] σ _
      refine e_load q_111 rfl rfl rfl ?_
      refine e_if (P := x2 = 0) q_111 rfl m_c0 (fun c => ?_) (fun c => ?_)
      · replace h := h.1 c
        refine e_load q_111 rfl rfl rfl ?_
        refine e_push q_111 rfl ?_
        refine e_load q_111 rfl rfl rfl ?_
        refine e_bin (r := 1 <<< (x1 &&& 31)) q_111 rfl rfl ?_
        refine e_push q_111 rfl ?_
        refine e_bin (r := (1 <<< (x1 &&& 31)) ^^^ (-1)) q_111 rfl rfl ?_
        refine e_bin (r := (σ 2 78) &&& ((1 <<< (x1 &&& 31)) ^^^ (-1))) q_111 rfl rfl ?_
        refine e_ireturn q_111 rfl rfl ?_
        show Ev S (d + 2) 19 10 [some (.inr (some 1)), some (.inl x1), some (.inl x2)] [.inl ((σ 2 78) &&& ((1 <<< (x1 &&& 31)) ^^^ (-1))), .inl 78, .inr (some 2)] σ _
        refine e_iast (j := 78) q_19 rfl rfl (by decide) (by decide +kernel) (by decide) ?_
        refine e_return q_19 rfl rfl ?_
        show Ev S (d + 3) 83 27 [some (.inr (some 0)), some (.inl x1), some (.inl x2), some (.inl 1)] [] (up σ 2 78 ((σ 2 78) &&& ((1 <<< (x1 &&& 31)) ^^^ (-1)))) _
        refine e_load q_83 rfl rfl rfl ?_
        refine e_if (P := (1 : Int32) = 0) q_83 rfl m_c0 (fun c => absurd c (by decide)) (fun _ => ?_)
        refine e_push q_83 rfl ?_
        refine e_goto q_83 rfl ?_
        exact e_ireturn q_83 rfl rfl h
      · replace h := h.2 c
        refine e_load q_111 rfl rfl rfl ?_
        refine e_push q_111 rfl ?_
        refine e_load q_111 rfl rfl rfl ?_
        refine e_bin (r := 1 <<< (x1 &&& 31)) q_111 rfl rfl ?_
        refine e_bin (r := (σ 2 78) ||| (1 <<< (x1 &&& 31))) q_111 rfl rfl ?_
        refine e_goto q_111 rfl ?_
        refine e_ireturn q_111 rfl rfl ?_
        show Ev S (d + 2) 19 10 [some (.inr (some 1)), some (.inl x1), some (.inl x2)] [.inl ((σ 2 78) ||| (1 <<< (x1 &&& 31))), .inl 78, .inr (some 2)] σ _
        refine e_iast (j := 78) q_19 rfl rfl (by decide) (by decide +kernel) (by decide) ?_
        refine e_return q_19 rfl rfl ?_
        show Ev S (d + 3) 83 27 [some (.inr (some 0)), some (.inl x1), some (.inl x2), some (.inl 1)] [] (up σ 2 78 ((σ 2 78) ||| (1 <<< (x1 &&& 31)))) _
        refine e_load q_83 rfl rfl rfl ?_
        refine e_if (P := (1 : Int32) = 0) q_83 rfl m_c0 (fun c => absurd c (by decide)) (fun _ => ?_)
        refine e_push q_83 rfl ?_
        refine e_goto q_83 rfl ?_
        exact e_ireturn q_83 rfl rfl h
theorem g_84_0 {S : Nat × (Nat → Int32)} {d : Nat} {σ : Mem} {Q : MQ1} {x1 : Int32}  (h : ((x1 < 0 → Q [.inl (-100001)] (up σ 0 5 ((σ 0 5) + 1))) ∧ (¬ (x1 < 0) → ((x1 ≤ 6 → Ec S (d + 2) 26 [.inr (some 24), .inr (some 1)] σ (fun rv σ' => Ev S (d + 3) 84 14 [some (.inr (some 0)), some (.inl x1), none] (rv ++ []) σ' Q)) ∧ (¬ (x1 ≤ 6) → Q [.inl (-100001)] (up σ 0 5 ((σ 0 5) + 1))))))) : Ev S (d + 3) 84 0 [some (.inr (some 0)), some (.inl x1), none] [] σ Q := by
  refine e_load q_84 rfl rfl rfl ?_
  refine e_if (P := x1 < 0) q_84 rfl m_c2 (fun c => ?_) (fun c => ?_)
  · replace h := h.1 c
    refine e_load q_84 rfl rfl rfl ?_
    refine e_push q_84 rfl ?_
    refine e_virt q_84 rfl rfl (Nat.le_of_ble_eq_true rfl) rfl rfl (Nat.le_of_ble_eq_true rfl) rfl ?_
    show Ev S (d + 2) 105 0 [some (.inr (some 0)), some (.inl (-100001))] [] σ _
    refine e_load q_105 rfl rfl rfl ?_
    refine e_dup q_105 rfl ?_
    refine e_getI q_105 rfl rfl rfl ?_
    refine e_push q_105 rfl ?_
    refine e_bin (r := (σ 0 5) + 1) q_105 rfl rfl ?_
    refine e_putI q_105 rfl rfl rfl ?_
    refine e_load q_105 rfl rfl rfl ?_
    refine e_ireturn q_105 rfl rfl ?_
    show Ev S (d + 3) 84 8 [some (.inr (some 0)), some (.inl x1), none] [.inl (-100001)] (up σ 0 5 ((σ 0 5) + 1)) _
    exact e_ireturn q_84 rfl rfl h
  · replace h := h.2 c
    refine e_load q_84 rfl rfl rfl ?_
    refine e_push q_84 rfl ?_
    refine e_icmp (P := x1 ≤ 6) q_84 rfl m_c5 (fun c => ?_) (fun c => ?_)
    · replace h := h.1 c
      refine e_load q_84 rfl rfl rfl ?_
      refine e_getR q_84 rfl rfl rfl ?_
      refine e_load q_84 rfl rfl rfl ?_
      refine e_getR q_84 rfl rfl rfl ?_
      exact e_virt q_84 rfl rfl (Nat.le_of_ble_eq_true rfl) rfl rfl (Nat.le_of_ble_eq_true rfl) rfl h
    · replace h := h.2 c
      refine e_load q_84 rfl rfl rfl ?_
      refine e_push q_84 rfl ?_
      refine e_virt q_84 rfl rfl (Nat.le_of_ble_eq_true rfl) rfl rfl (Nat.le_of_ble_eq_true rfl) rfl ?_
      show Ev S (d + 2) 105 0 [some (.inr (some 0)), some (.inl (-100001))] [] σ _
      refine e_load q_105 rfl rfl rfl ?_
      refine e_dup q_105 rfl ?_
      refine e_getI q_105 rfl rfl rfl ?_
      refine e_push q_105 rfl ?_
      refine e_bin (r := (σ 0 5) + 1) q_105 rfl rfl ?_
      refine e_putI q_105 rfl rfl rfl ?_
      refine e_load q_105 rfl rfl rfl ?_
      refine e_ireturn q_105 rfl rfl ?_
      show Ev S (d + 3) 84 8 [some (.inr (some 0)), some (.inl x1), none] [.inl (-100001)] (up σ 0 5 ((σ 0 5) + 1)) _
      exact e_ireturn q_84 rfl rfl h
theorem g_84_14 {S : Nat × (Nat → Int32)} {d : Nat} {σ : Mem} {Q : MQ1} {x1 : Int32} {o2 : Option MV}  (h : Q [.inl (σ 2 79)] (up σ 2 79 x1)) : Ev S (d + 3) 84 14 [some (.inr (some 0)), some (.inl x1), o2] [] σ Q := by
  refine e_load q_84 rfl rfl rfl ?_
  refine e_getR q_84 rfl rfl rfl ?_
  refine e_virt q_84 rfl rfl (Nat.le_of_ble_eq_true rfl) rfl rfl (Nat.le_of_ble_eq_true rfl) rfl ?_
  show Ev S (d + 2) 22 0 [some (.inr (some 1))] [] σ _
  refine e_load q_22 rfl rfl rfl ?_
  refine e_getR q_22 rfl rfl rfl ?_
  refine e_push q_22 rfl ?_
  refine e_iald (j := 79) q_22 rfl rfl (by decide) (by decide +kernel) (by decide) ?_
  refine e_ireturn q_22 rfl rfl ?_
  show Ev S (d + 3) 84 17 [some (.inr (some 0)), some (.inl x1), o2] [.inl (σ 2 79)] σ _
  refine e_store (ls' := [some (.inr (some 0)), some (.inl x1), some (.inl (σ 2 79))]) q_84 rfl (Nat.le_of_ble_eq_true rfl) rfl rfl ?_
  refine e_load q_84 rfl rfl rfl ?_
  refine e_getR q_84 rfl rfl rfl ?_
  refine e_load q_84 rfl rfl rfl ?_
  refine e_virt q_84 rfl rfl (Nat.le_of_ble_eq_true rfl) rfl rfl (Nat.le_of_ble_eq_true rfl) rfl ?_
  show Ev S (d + 2) 23 0 [some (.inr (some 1)), some (.inl x1)] [] σ _
  refine e_load q_23 rfl rfl rfl ?_
  refine e_getR q_23 rfl rfl rfl ?_
  refine e_push q_23 rfl ?_
  refine e_load q_23 rfl rfl rfl ?_
  refine e_iast (j := 79) q_23 rfl rfl (by decide) (by decide +kernel) (by decide) ?_
  refine e_return q_23 rfl rfl ?_
  show Ev S (d + 3) 84 22 [some (.inr (some 0)), some (.inl x1), some (.inl (σ 2 79))] [] (up σ 2 79 x1) _
  refine e_load q_84 rfl rfl rfl ?_
  exact e_ireturn q_84 rfl rfl h
theorem g_85_0 {S : Nat × (Nat → Int32)} {d : Nat} {σ : Mem} {Q : MQ1} {x1 : Int32} {x2 : Int32} {x3 : Int32}  (h : ((x1 < 0 → Q [.inl (-100001)] (up σ 0 5 ((σ 0 5) + 1))) ∧ (¬ (x1 < 0) → ((x1 < 4 → ((x2 = 0 → ((0 ≤ x3 → ((x3 ≤ 6 → (∃ j1 r2 r2n : Nat, x1 = nI j1 ∧ ([52, 54, 56, 58] : List Nat)[j1]? = some r2 ∧ isSt r2 r2n ∧ Ec S d 66 [.inr (some r2), .inl x2, .inl x3] σ (fun rv σ' => Ev S (d + 1) 85 38 [some (.inr (some 0)), some (.inl x1), some (.inl x2), some (.inl x3)] (rv ++ []) σ' Q))) ∧ (¬ (x3 ≤ 6) → Q [.inl (-100001)] (up σ 0 5 ((σ 0 5) + 1))))) ∧ (¬ (0 ≤ x3) → Q [.inl (-100003)] (up σ 0 5 ((σ 0 5) + 1))))) ∧ (¬ (x2 = 0) → ((x2 = 8 → ((0 ≤ x3 → ((x3 ≤ 6 → (∃ j3 r4 r4n : Nat, x1 = nI j3 ∧ ([52, 54, 56, 58] : List Nat)[j3]? = some r4 ∧ isSt r4 r4n ∧ Ec S d 66 [.inr (some r4), .inl x2, .inl x3] σ (fun rv σ' => Ev S (d + 1) 85 38 [some (.inr (some 0)), some (.inl x1), some (.inl x2), some (.inl x3)] (rv ++ []) σ' Q))) ∧ (¬ (x3 ≤ 6) → Q [.inl (-100001)] (up σ 0 5 ((σ 0 5) + 1))))) ∧ (¬ (0 ≤ x3) → Q [.inl (-100003)] (up σ 0 5 ((σ 0 5) + 1))))) ∧ (¬ (x2 = 8) → ((x2 = 16 → ((0 ≤ x3 → ((x3 ≤ 6 → (∃ j5 r6 r6n : Nat, x1 = nI j5 ∧ ([52, 54, 56, 58] : List Nat)[j5]? = some r6 ∧ isSt r6 r6n ∧ Ec S d 66 [.inr (some r6), .inl x2, .inl x3] σ (fun rv σ' => Ev S (d + 1) 85 38 [some (.inr (some 0)), some (.inl x1), some (.inl x2), some (.inl x3)] (rv ++ []) σ' Q))) ∧ (¬ (x3 ≤ 6) → Q [.inl (-100001)] (up σ 0 5 ((σ 0 5) + 1))))) ∧ (¬ (0 ≤ x3) → Q [.inl (-100003)] (up σ 0 5 ((σ 0 5) + 1))))) ∧ (¬ (x2 = 16) → ((x2 = 32 → ((0 ≤ x3 → ((x3 ≤ 6 → (∃ j7 r8 r8n : Nat, x1 = nI j7 ∧ ([52, 54, 56, 58] : List Nat)[j7]? = some r8 ∧ isSt r8 r8n ∧ Ec S d 66 [.inr (some r8), .inl x2, .inl x3] σ (fun rv σ' => Ev S (d + 1) 85 38 [some (.inr (some 0)), some (.inl x1), some (.inl x2), some (.inl x3)] (rv ++ []) σ' Q))) ∧ (¬ (x3 ≤ 6) → Q [.inl (-100001)] (up σ 0 5 ((σ 0 5) + 1))))) ∧ (¬ (0 ≤ x3) → Q [.inl (-100003)] (up σ 0 5 ((σ 0 5) + 1))))) ∧ (¬ (x2 = 32) → Q [.inl (-100001)] (up σ 0 5 ((σ 0 5) + 1))))))))))) ∧ (¬ (x1 < 4) → Q [.inl (-100001)] (up σ 0 5 ((σ 0 5) + 1))))))) : Ev S (d + 1) 85 0 [some (.inr (some 0)), some (.inl x1), some (.inl x2), some (.inl x3)] [] σ Q := by
  refine e_load q_85 rfl rfl rfl ?_
  refine e_stat q_85 rfl (Nat.le_of_ble_eq_true rfl) rfl rfl (Nat.le_of_ble_eq_true rfl) ?_
  show Ev S d 109 0 [some (.inl x1)] [] σ _
  refine e_load q_109 rfl rfl rfl ?_
  refine e_if (P := x1 < 0) q_109 rfl m_c2 (fun c => ?_) (fun c => ?_)
  · replace h := h.1 c
    refine e_push q_109 rfl ?_
    refine e_goto q_109 rfl ?_
    refine e_zreturn q_109 rfl rfl (by decide) ?_
    show Ev S (d + 1) 85 2 [some (.inr (some 0)), some (.inl x1), some (.inl x2), some (.inl x3)] [.inl 1] σ _
    refine e_if (P := ¬ (1 : Int32) = 0) q_85 rfl m_c1 (fun _ => ?_) (fun c => absurd (by decide) c)
    refine e_load q_85 rfl rfl rfl ?_
    refine e_push q_85 rfl ?_
    refine e_virt q_85 rfl rfl (Nat.le_of_ble_eq_true rfl) rfl rfl (Nat.le_of_ble_eq_true rfl) rfl ?_
    show Ev S d 105 0 [some (.inr (some 0)), some (.inl (-100001))] [] σ _
    refine e_load q_105 rfl rfl rfl ?_
    refine e_dup q_105 rfl ?_
    refine e_getI q_105 rfl rfl rfl ?_
    refine e_push q_105 rfl ?_
    refine e_bin (r := (σ 0 5) + 1) q_105 rfl rfl ?_
    refine e_putI q_105 rfl rfl rfl ?_
    refine e_load q_105 rfl rfl rfl ?_
    refine e_ireturn q_105 rfl rfl ?_
    show Ev S (d + 1) 85 17 [some (.inr (some 0)), some (.inl x1), some (.inl x2), some (.inl x3)] [.inl (-100001)] (up σ 0 5 ((σ 0 5) + 1)) _
    exact e_ireturn q_85 rfl rfl h
  · replace h := h.2 c
    refine e_load q_109 rfl rfl rfl ?_
    refine e_push q_109 rfl ?_
    refine e_icmp (P := x1 < 4) q_109 rfl m_c2 (fun c => ?_) (fun c => ?_)
    · replace h := h.1 c
      refine e_push q_109 rfl ?_
      refine e_zreturn q_109 rfl rfl (by decide) ?_
      show Ev S (d + 1) 85 2 [some (.inr (some 0)), some (.inl x1), some (.inl x2), some (.inl x3)] [.inl 0] σ _
      refine e_if (P := ¬ (0 : Int32) = 0) q_85 rfl m_c1 (fun c => absurd c (by decide)) (fun _ => ?_)
      refine e_load q_85 rfl rfl rfl ?_
      refine e_if (P := x2 = 0) q_85 rfl m_c0 (fun c => ?_) (fun c => ?_)
      · replace h := h.1 c
        refine e_load q_85 rfl rfl rfl ?_
        refine e_if (P := 0 ≤ x3) q_85 rfl m_c3 (fun c => ?_) (fun c => ?_)
        · replace h := h.1 c
          refine e_load q_85 rfl rfl rfl ?_
          refine e_push q_85 rfl ?_
          refine e_icmp (P := x3 ≤ 6) q_85 rfl m_c5 (fun c => ?_) (fun c => ?_)
          · replace h := h.1 c
            refine e_load q_85 rfl rfl rfl ?_
            refine e_getR q_85 rfl rfl rfl ?_
            refine e_load q_85 rfl rfl rfl ?_
            obtain ⟨j1, r2, r2n, hjj1, hlj1, hr2, h⟩ := h
            refine e_aald q_85 rfl rfl (by decide) hjj1 hlj1 (by have := (List.getElem?_eq_some_iff.mp hlj1).1; simp at this; omega) ?_
            refine e_load q_85 rfl rfl rfl ?_
            refine e_load q_85 rfl rfl rfl ?_
            exact e_virt q_85 rfl rfl (Nat.le_of_ble_eq_true rfl) rfl rfl (Nat.le_of_ble_eq_true rfl) hr2.1 h
          · replace h := h.2 c
            refine e_load q_85 rfl rfl rfl ?_
            refine e_push q_85 rfl ?_
            refine e_virt q_85 rfl rfl (Nat.le_of_ble_eq_true rfl) rfl rfl (Nat.le_of_ble_eq_true rfl) rfl ?_
            show Ev S d 105 0 [some (.inr (some 0)), some (.inl (-100001))] [] σ _
            refine e_load q_105 rfl rfl rfl ?_
            refine e_dup q_105 rfl ?_
            refine e_getI q_105 rfl rfl rfl ?_
            refine e_push q_105 rfl ?_
            refine e_bin (r := (σ 0 5) + 1) q_105 rfl rfl ?_
            refine e_putI q_105 rfl rfl rfl ?_
            refine e_load q_105 rfl rfl rfl ?_
            refine e_ireturn q_105 rfl rfl ?_
            show Ev S (d + 1) 85 30 [some (.inr (some 0)), some (.inl x1), some (.inl x2), some (.inl x3)] [.inl (-100001)] (up σ 0 5 ((σ 0 5) + 1)) _
            exact e_ireturn q_85 rfl rfl h
        · replace h := h.2 c
          refine e_load q_85 rfl rfl rfl ?_
          refine e_push q_85 rfl ?_
          refine e_virt q_85 rfl rfl (Nat.le_of_ble_eq_true rfl) rfl rfl (Nat.le_of_ble_eq_true rfl) rfl ?_
          show Ev S d 105 0 [some (.inr (some 0)), some (.inl (-100003))] [] σ _
          refine e_load q_105 rfl rfl rfl ?_
          refine e_dup q_105 rfl ?_
          refine e_getI q_105 rfl rfl rfl ?_
          refine e_push q_105 rfl ?_
          refine e_bin (r := (σ 0 5) + 1) q_105 rfl rfl ?_
          refine e_putI q_105 rfl rfl rfl ?_
          refine e_load q_105 rfl rfl rfl ?_
          refine e_ireturn q_105 rfl rfl ?_
          show Ev S (d + 1) 85 23 [some (.inr (some 0)), some (.inl x1), some (.inl x2), some (.inl x3)] [.inl (-100003)] (up σ 0 5 ((σ 0 5) + 1)) _
          exact e_ireturn q_85 rfl rfl h
      · replace h := h.2 c
        refine e_load q_85 rfl rfl rfl ?_
        refine e_push q_85 rfl ?_
        refine e_icmp (P := x2 = 8) q_85 rfl m_c0 (fun c => ?_) (fun c => ?_)
        · replace h := h.1 c
          refine e_load q_85 rfl rfl rfl ?_
          refine e_if (P := 0 ≤ x3) q_85 rfl m_c3 (fun c => ?_) (fun c => ?_)
          · replace h := h.1 c
            refine e_load q_85 rfl rfl rfl ?_
            refine e_push q_85 rfl ?_
            refine e_icmp (P := x3 ≤ 6) q_85 rfl m_c5 (fun c => ?_) (fun c => ?_)
            · replace h := h.1 c
              refine e_load q_85 rfl rfl rfl ?_
              refine e_getR q_85 rfl rfl rfl ?_
              refine e_load q_85 rfl rfl rfl ?_
              obtain ⟨j3, r4, r4n, hjj3, hlj3, hr4, h⟩ := h
              refine e_aald q_85 rfl rfl (by decide) hjj3 hlj3 (by have := (List.getElem?_eq_some_iff.mp hlj3).1; simp at this; omega) ?_
              refine e_load q_85 rfl rfl rfl ?_
              refine e_load q_85 rfl rfl rfl ?_
              exact e_virt q_85 rfl rfl (Nat.le_of_ble_eq_true rfl) rfl rfl (Nat.le_of_ble_eq_true rfl) hr4.1 h
            · replace h := h.2 c
              refine e_load q_85 rfl rfl rfl ?_
              refine e_push q_85 rfl ?_
              refine e_virt q_85 rfl rfl (Nat.le_of_ble_eq_true rfl) rfl rfl (Nat.le_of_ble_eq_true rfl) rfl ?_
              show Ev S d 105 0 [some (.inr (some 0)), some (.inl (-100001))] [] σ _
              refine e_load q_105 rfl rfl rfl ?_
              refine e_dup q_105 rfl ?_
              refine e_getI q_105 rfl rfl rfl ?_
              refine e_push q_105 rfl ?_
              refine e_bin (r := (σ 0 5) + 1) q_105 rfl rfl ?_
              refine e_putI q_105 rfl rfl rfl ?_
              refine e_load q_105 rfl rfl rfl ?_
              refine e_ireturn q_105 rfl rfl ?_
              show Ev S (d + 1) 85 30 [some (.inr (some 0)), some (.inl x1), some (.inl x2), some (.inl x3)] [.inl (-100001)] (up σ 0 5 ((σ 0 5) + 1)) _
              exact e_ireturn q_85 rfl rfl h
          · replace h := h.2 c
            refine e_load q_85 rfl rfl rfl ?_
            refine e_push q_85 rfl ?_
            refine e_virt q_85 rfl rfl (Nat.le_of_ble_eq_true rfl) rfl rfl (Nat.le_of_ble_eq_true rfl) rfl ?_
            show Ev S d 105 0 [some (.inr (some 0)), some (.inl (-100003))] [] σ _
            refine e_load q_105 rfl rfl rfl ?_
            refine e_dup q_105 rfl ?_
            refine e_getI q_105 rfl rfl rfl ?_
            refine e_push q_105 rfl ?_
            refine e_bin (r := (σ 0 5) + 1) q_105 rfl rfl ?_
            refine e_putI q_105 rfl rfl rfl ?_
            refine e_load q_105 rfl rfl rfl ?_
            refine e_ireturn q_105 rfl rfl ?_
            show Ev S (d + 1) 85 23 [some (.inr (some 0)), some (.inl x1), some (.inl x2), some (.inl x3)] [.inl (-100003)] (up σ 0 5 ((σ 0 5) + 1)) _
            exact e_ireturn q_85 rfl rfl h
        · replace h := h.2 c
          refine e_load q_85 rfl rfl rfl ?_
          refine e_push q_85 rfl ?_
          refine e_icmp (P := x2 = 16) q_85 rfl m_c0 (fun c => ?_) (fun c => ?_)
          · replace h := h.1 c
            refine e_load q_85 rfl rfl rfl ?_
            refine e_if (P := 0 ≤ x3) q_85 rfl m_c3 (fun c => ?_) (fun c => ?_)
            · replace h := h.1 c
              refine e_load q_85 rfl rfl rfl ?_
              refine e_push q_85 rfl ?_
              refine e_icmp (P := x3 ≤ 6) q_85 rfl m_c5 (fun c => ?_) (fun c => ?_)
              · replace h := h.1 c
                refine e_load q_85 rfl rfl rfl ?_
                refine e_getR q_85 rfl rfl rfl ?_
                refine e_load q_85 rfl rfl rfl ?_
                obtain ⟨j5, r6, r6n, hjj5, hlj5, hr6, h⟩ := h
                refine e_aald q_85 rfl rfl (by decide) hjj5 hlj5 (by have := (List.getElem?_eq_some_iff.mp hlj5).1; simp at this; omega) ?_
                refine e_load q_85 rfl rfl rfl ?_
                refine e_load q_85 rfl rfl rfl ?_
                exact e_virt q_85 rfl rfl (Nat.le_of_ble_eq_true rfl) rfl rfl (Nat.le_of_ble_eq_true rfl) hr6.1 h
              · replace h := h.2 c
                refine e_load q_85 rfl rfl rfl ?_
                refine e_push q_85 rfl ?_
                refine e_virt q_85 rfl rfl (Nat.le_of_ble_eq_true rfl) rfl rfl (Nat.le_of_ble_eq_true rfl) rfl ?_
                show Ev S d 105 0 [some (.inr (some 0)), some (.inl (-100001))] [] σ _
                refine e_load q_105 rfl rfl rfl ?_
                refine e_dup q_105 rfl ?_
                refine e_getI q_105 rfl rfl rfl ?_
                refine e_push q_105 rfl ?_
                refine e_bin (r := (σ 0 5) + 1) q_105 rfl rfl ?_
                refine e_putI q_105 rfl rfl rfl ?_
                refine e_load q_105 rfl rfl rfl ?_
                refine e_ireturn q_105 rfl rfl ?_
                show Ev S (d + 1) 85 30 [some (.inr (some 0)), some (.inl x1), some (.inl x2), some (.inl x3)] [.inl (-100001)] (up σ 0 5 ((σ 0 5) + 1)) _
                exact e_ireturn q_85 rfl rfl h
            · replace h := h.2 c
              refine e_load q_85 rfl rfl rfl ?_
              refine e_push q_85 rfl ?_
              refine e_virt q_85 rfl rfl (Nat.le_of_ble_eq_true rfl) rfl rfl (Nat.le_of_ble_eq_true rfl) rfl ?_
              show Ev S d 105 0 [some (.inr (some 0)), some (.inl (-100003))] [] σ _
              refine e_load q_105 rfl rfl rfl ?_
              refine e_dup q_105 rfl ?_
              refine e_getI q_105 rfl rfl rfl ?_
              refine e_push q_105 rfl ?_
              refine e_bin (r := (σ 0 5) + 1) q_105 rfl rfl ?_
              refine e_putI q_105 rfl rfl rfl ?_
              refine e_load q_105 rfl rfl rfl ?_
              refine e_ireturn q_105 rfl rfl ?_
              show Ev S (d + 1) 85 23 [some (.inr (some 0)), some (.inl x1), some (.inl x2), some (.inl x3)] [.inl (-100003)] (up σ 0 5 ((σ 0 5) + 1)) _
              exact e_ireturn q_85 rfl rfl h
          · replace h := h.2 c
            refine e_load q_85 rfl rfl rfl ?_
            refine e_push q_85 rfl ?_
            refine e_icmp (P := x2 = 32) q_85 rfl m_c0 (fun c => ?_) (fun c => ?_)
            · replace h := h.1 c
              refine e_load q_85 rfl rfl rfl ?_
              refine e_if (P := 0 ≤ x3) q_85 rfl m_c3 (fun c => ?_) (fun c => ?_)
              · replace h := h.1 c
                refine e_load q_85 rfl rfl rfl ?_
                refine e_push q_85 rfl ?_
                refine e_icmp (P := x3 ≤ 6) q_85 rfl m_c5 (fun c => ?_) (fun c => ?_)
                · replace h := h.1 c
                  refine e_load q_85 rfl rfl rfl ?_
                  refine e_getR q_85 rfl rfl rfl ?_
                  refine e_load q_85 rfl rfl rfl ?_
                  obtain ⟨j7, r8, r8n, hjj7, hlj7, hr8, h⟩ := h
                  refine e_aald q_85 rfl rfl (by decide) hjj7 hlj7 (by have := (List.getElem?_eq_some_iff.mp hlj7).1; simp at this; omega) ?_
                  refine e_load q_85 rfl rfl rfl ?_
                  refine e_load q_85 rfl rfl rfl ?_
                  exact e_virt q_85 rfl rfl (Nat.le_of_ble_eq_true rfl) rfl rfl (Nat.le_of_ble_eq_true rfl) hr8.1 h
                · replace h := h.2 c
                  refine e_load q_85 rfl rfl rfl ?_
                  refine e_push q_85 rfl ?_
                  refine e_virt q_85 rfl rfl (Nat.le_of_ble_eq_true rfl) rfl rfl (Nat.le_of_ble_eq_true rfl) rfl ?_
                  show Ev S d 105 0 [some (.inr (some 0)), some (.inl (-100001))] [] σ _
                  refine e_load q_105 rfl rfl rfl ?_
                  refine e_dup q_105 rfl ?_
                  refine e_getI q_105 rfl rfl rfl ?_
                  refine e_push q_105 rfl ?_
                  refine e_bin (r := (σ 0 5) + 1) q_105 rfl rfl ?_
                  refine e_putI q_105 rfl rfl rfl ?_
                  refine e_load q_105 rfl rfl rfl ?_
                  refine e_ireturn q_105 rfl rfl ?_
                  show Ev S (d + 1) 85 30 [some (.inr (some 0)), some (.inl x1), some (.inl x2), some (.inl x3)] [.inl (-100001)] (up σ 0 5 ((σ 0 5) + 1)) _
                  exact e_ireturn q_85 rfl rfl h
              · replace h := h.2 c
                refine e_load q_85 rfl rfl rfl ?_
                refine e_push q_85 rfl ?_
                refine e_virt q_85 rfl rfl (Nat.le_of_ble_eq_true rfl) rfl rfl (Nat.le_of_ble_eq_true rfl) rfl ?_
                show Ev S d 105 0 [some (.inr (some 0)), some (.inl (-100003))] [] σ _
                refine e_load q_105 rfl rfl rfl ?_
                refine e_dup q_105 rfl ?_
                refine e_getI q_105 rfl rfl rfl ?_
                refine e_push q_105 rfl ?_
                refine e_bin (r := (σ 0 5) + 1) q_105 rfl rfl ?_
                refine e_putI q_105 rfl rfl rfl ?_
                refine e_load q_105 rfl rfl rfl ?_
                refine e_ireturn q_105 rfl rfl ?_
                show Ev S (d + 1) 85 23 [some (.inr (some 0)), some (.inl x1), some (.inl x2), some (.inl x3)] [.inl (-100003)] (up σ 0 5 ((σ 0 5) + 1)) _
                exact e_ireturn q_85 rfl rfl h
            · replace h := h.2 c
              refine e_load q_85 rfl rfl rfl ?_
              refine e_push q_85 rfl ?_
              refine e_virt q_85 rfl rfl (Nat.le_of_ble_eq_true rfl) rfl rfl (Nat.le_of_ble_eq_true rfl) rfl ?_
              show Ev S d 105 0 [some (.inr (some 0)), some (.inl (-100001))] [] σ _
              refine e_load q_105 rfl rfl rfl ?_
              refine e_dup q_105 rfl ?_
              refine e_getI q_105 rfl rfl rfl ?_
              refine e_push q_105 rfl ?_
              refine e_bin (r := (σ 0 5) + 1) q_105 rfl rfl ?_
              refine e_putI q_105 rfl rfl rfl ?_
              refine e_load q_105 rfl rfl rfl ?_
              refine e_ireturn q_105 rfl rfl ?_
              show Ev S (d + 1) 85 17 [some (.inr (some 0)), some (.inl x1), some (.inl x2), some (.inl x3)] [.inl (-100001)] (up σ 0 5 ((σ 0 5) + 1)) _
              exact e_ireturn q_85 rfl rfl h
    · replace h := h.2 c
      refine e_push q_109 rfl ?_
      refine e_goto q_109 rfl ?_
      refine e_zreturn q_109 rfl rfl (by decide) ?_
      show Ev S (d + 1) 85 2 [some (.inr (some 0)), some (.inl x1), some (.inl x2), some (.inl x3)] [.inl 1] σ _
      refine e_if (P := ¬ (1 : Int32) = 0) q_85 rfl m_c1 (fun _ => ?_) (fun c => absurd (by decide) c)
      refine e_load q_85 rfl rfl rfl ?_
      refine e_push q_85 rfl ?_
      refine e_virt q_85 rfl rfl (Nat.le_of_ble_eq_true rfl) rfl rfl (Nat.le_of_ble_eq_true rfl) rfl ?_
      show Ev S d 105 0 [some (.inr (some 0)), some (.inl (-100001))] [] σ _
      refine e_load q_105 rfl rfl rfl ?_
      refine e_dup q_105 rfl ?_
      refine e_getI q_105 rfl rfl rfl ?_
      refine e_push q_105 rfl ?_
      refine e_bin (r := (σ 0 5) + 1) q_105 rfl rfl ?_
      refine e_putI q_105 rfl rfl rfl ?_
      refine e_load q_105 rfl rfl rfl ?_
      refine e_ireturn q_105 rfl rfl ?_
      show Ev S (d + 1) 85 17 [some (.inr (some 0)), some (.inl x1), some (.inl x2), some (.inl x3)] [.inl (-100001)] (up σ 0 5 ((σ 0 5) + 1)) _
      exact e_ireturn q_85 rfl rfl h
theorem g_85_38 {S : Nat × (Nat → Int32)} {d : Nat} {σ : Mem} {Q : MQ1} {o0 : Option MV} {o1 : Option MV} {o2 : Option MV} {o3 : Option MV} {y0 : Int32}  (h : Q [.inl y0] σ) : Ev S (d + 1) 85 38 [o0, o1, o2, o3] [.inl y0] σ Q := by
  exact e_ireturn q_85 rfl rfl h
theorem g_86_0 {S : Nat × (Nat → Int32)} {d : Nat} {σ : Mem} {Q : MQ1} {x1 : Int32} {x2 : Int32} {x3 : Int32}  (h : ((x1 < 0 → Q [.inl (-100001)] (up σ 0 5 ((σ 0 5) + 1))) ∧ (¬ (x1 < 0) → ((x1 < 4 → (∃ j1 r2 r2n : Nat, x1 = nI j1 ∧ ([52, 54, 56, 58] : List Nat)[j1]? = some r2 ∧ isSt r2 r2n ∧ (((¬ (σ r2 1) = 0) → ((x2 < 0 → Q [.inl (-100001)] (up σ 0 5 ((σ 0 5) + 1))) ∧ (¬ (x2 < 0) → ((((σ r2 2) - 1) < x2 → Q [.inl (-100001)] (up σ 0 5 ((σ 0 5) + 1))) ∧ (¬ (((σ r2 2) - 1) < x2) → Ec S d 72 [.inr (some r2), .inl x2, .inl x3] σ (fun rv σ' => Ev S (d + 1) 86 32 [some (.inr (some 0)), some (.inl x1), some (.inl x2), some (.inl x3), some (.inr (some r2))] (rv ++ []) σ' Q)))))) ∧ (¬ (¬ (σ r2 1) = 0) → Q [.inl (-100002)] (up σ 0 5 ((σ 0 5) + 1)))))) ∧ (¬ (x1 < 4) → Q [.inl (-100001)] (up σ 0 5 ((σ 0 5) + 1))))))) : Ev S (d + 1) 86 0 [some (.inr (some 0)), some (.inl x1), some (.inl x2), some (.inl x3), none] [] σ Q := by
  refine e_load q_86 rfl rfl rfl ?_
  refine e_stat q_86 rfl (Nat.le_of_ble_eq_true rfl) rfl rfl (Nat.le_of_ble_eq_true rfl) ?_
  show Ev S d 109 0 [some (.inl x1)] [] σ _
  refine e_load q_109 rfl rfl rfl ?_
  refine e_if (P := x1 < 0) q_109 rfl m_c2 (fun c => ?_) (fun c => ?_)
  · replace h := h.1 c
    refine e_push q_109 rfl ?_
    refine e_goto q_109 rfl ?_
    refine e_zreturn q_109 rfl rfl (by decide) ?_
    show Ev S (d + 1) 86 2 [some (.inr (some 0)), some (.inl x1), some (.inl x2), some (.inl x3), none] [.inl 1] σ _
    refine e_if (P := (1 : Int32) = 0) q_86 rfl m_c0 (fun c => absurd c (by decide)) (fun _ => ?_)
    refine e_load q_86 rfl rfl rfl ?_
    refine e_push q_86 rfl ?_
    refine e_virt q_86 rfl rfl (Nat.le_of_ble_eq_true rfl) rfl rfl (Nat.le_of_ble_eq_true rfl) rfl ?_
    show Ev S d 105 0 [some (.inr (some 0)), some (.inl (-100001))] [] σ _
    refine e_load q_105 rfl rfl rfl ?_
    refine e_dup q_105 rfl ?_
    refine e_getI q_105 rfl rfl rfl ?_
    refine e_push q_105 rfl ?_
    refine e_bin (r := (σ 0 5) + 1) q_105 rfl rfl ?_
    refine e_putI q_105 rfl rfl rfl ?_
    refine e_load q_105 rfl rfl rfl ?_
    refine e_ireturn q_105 rfl rfl ?_
    show Ev S (d + 1) 86 6 [some (.inr (some 0)), some (.inl x1), some (.inl x2), some (.inl x3), none] [.inl (-100001)] (up σ 0 5 ((σ 0 5) + 1)) _
    exact e_ireturn q_86 rfl rfl h
  · replace h := h.2 c
    refine e_load q_109 rfl rfl rfl ?_
    refine e_push q_109 rfl ?_
    refine e_icmp (P := x1 < 4) q_109 rfl m_c2 (fun c => ?_) (fun c => ?_)
    · replace h := h.1 c
      refine e_push q_109 rfl ?_
      refine e_zreturn q_109 rfl rfl (by decide) ?_
      show Ev S (d + 1) 86 2 [some (.inr (some 0)), some (.inl x1), some (.inl x2), some (.inl x3), none] [.inl 0] σ _
      refine e_if (P := (0 : Int32) = 0) q_86 rfl m_c0 (fun _ => ?_) (fun c => absurd (by decide) c)
      refine e_load q_86 rfl rfl rfl ?_
      refine e_getR q_86 rfl rfl rfl ?_
      refine e_load q_86 rfl rfl rfl ?_
      obtain ⟨j1, r2, r2n, hjj1, hlj1, hr2, h⟩ := h
      refine e_aald q_86 rfl rfl (by decide) hjj1 hlj1 (by have := (List.getElem?_eq_some_iff.mp hlj1).1; simp at this; omega) ?_
      refine e_store (ls' := [some (.inr (some 0)), some (.inl x1), some (.inl x2), some (.inl x3), some (.inr (some r2))]) q_86 rfl (Nat.le_of_ble_eq_true rfl) rfl rfl ?_
      refine e_load q_86 rfl rfl rfl ?_
      refine e_virt q_86 rfl rfl (Nat.le_of_ble_eq_true rfl) rfl rfl (Nat.le_of_ble_eq_true rfl) hr2.1 ?_
      show Ev S d 67 0 [some (.inr (some r2))] [] σ _
      refine e_load q_67 rfl rfl rfl ?_
      refine e_getI q_67 rfl hr2.1 rfl ?_
      refine e_if (P := ¬ (σ r2 1) = 0) q_67 rfl m_c1 (fun c => ?_) (fun c => ?_)
      · replace h := h.1 c
        refine e_push q_67 rfl ?_
        refine e_zreturn q_67 rfl rfl (by decide) ?_
        show Ev S (d + 1) 86 14 [some (.inr (some 0)), some (.inl x1), some (.inl x2), some (.inl x3), some (.inr (some r2))] [.inl 0] σ _
        refine e_if (P := (0 : Int32) = 0) q_86 rfl m_c0 (fun _ => ?_) (fun c => absurd (by decide) c)
        refine e_load q_86 rfl rfl rfl ?_
        refine e_load q_86 rfl rfl rfl ?_
        refine e_push q_86 rfl ?_
        refine e_virt q_86 rfl rfl (Nat.le_of_ble_eq_true rfl) rfl rfl (Nat.le_of_ble_eq_true rfl) hr2.1 ?_
        show Ev S d 70 0 [some (.inr (some r2)), some (.inl x2), some (.inl 1)] [] σ _
        refine e_load q_70 rfl rfl rfl ?_
        refine e_if (P := x2 < 0) q_70 rfl m_c2 (fun c => ?_) (fun c => ?_)
        · replace h := h.1 c
          refine e_push q_70 rfl ?_
          refine e_zreturn q_70 rfl rfl (by decide) ?_
          show Ev S (d + 1) 86 23 [some (.inr (some 0)), some (.inl x1), some (.inl x2), some (.inl x3), some (.inr (some r2))] [.inl 0] σ _
          refine e_if (P := ¬ (0 : Int32) = 0) q_86 rfl m_c1 (fun c => absurd c (by decide)) (fun _ => ?_)
          refine e_load q_86 rfl rfl rfl ?_
          refine e_push q_86 rfl ?_
          refine e_virt q_86 rfl rfl (Nat.le_of_ble_eq_true rfl) rfl rfl (Nat.le_of_ble_eq_true rfl) rfl ?_
          show Ev S d 105 0 [some (.inr (some 0)), some (.inl (-100001))] [] σ _
          refine e_load q_105 rfl rfl rfl ?_
          refine e_dup q_105 rfl ?_
          refine e_getI q_105 rfl rfl rfl ?_
          refine e_push q_105 rfl ?_
          refine e_bin (r := (σ 0 5) + 1) q_105 rfl rfl ?_
          refine e_putI q_105 rfl rfl rfl ?_
          refine e_load q_105 rfl rfl rfl ?_
          refine e_ireturn q_105 rfl rfl ?_
          show Ev S (d + 1) 86 27 [some (.inr (some 0)), some (.inl x1), some (.inl x2), some (.inl x3), some (.inr (some r2))] [.inl (-100001)] (up σ 0 5 ((σ 0 5) + 1)) _
          exact e_ireturn q_86 rfl rfl h
        · replace h := h.2 c
          refine e_load q_70 rfl rfl rfl ?_
          refine e_if (P := (1 : Int32) < 0) q_70 rfl m_c2 (fun c => absurd c (by decide)) (fun _ => ?_)
          refine e_load q_70 rfl rfl rfl ?_
          refine e_load q_70 rfl rfl rfl ?_
          refine e_getI q_70 rfl hr2.1 rfl ?_
          refine e_load q_70 rfl rfl rfl ?_
          refine e_bin (r := (σ r2 2) - 1) q_70 rfl rfl ?_
          refine e_icmp (P := ((σ r2 2) - 1) < x2) q_70 rfl m_c4 (fun c => ?_) (fun c => ?_)
          · replace h := h.1 c
            refine e_push q_70 rfl ?_
            refine e_zreturn q_70 rfl rfl (by decide) ?_
            show Ev S (d + 1) 86 23 [some (.inr (some 0)), some (.inl x1), some (.inl x2), some (.inl x3), some (.inr (some r2))] [.inl 0] σ _
            refine e_if (P := ¬ (0 : Int32) = 0) q_86 rfl m_c1 (fun c => absurd c (by decide)) (fun _ => ?_)
            refine e_load q_86 rfl rfl rfl ?_
            refine e_push q_86 rfl ?_
            refine e_virt q_86 rfl rfl (Nat.le_of_ble_eq_true rfl) rfl rfl (Nat.le_of_ble_eq_true rfl) rfl ?_
            show Ev S d 105 0 [some (.inr (some 0)), some (.inl (-100001))] [] σ _
            refine e_load q_105 rfl rfl rfl ?_
            refine e_dup q_105 rfl ?_
            refine e_getI q_105 rfl rfl rfl ?_
            refine e_push q_105 rfl ?_
            refine e_bin (r := (σ 0 5) + 1) q_105 rfl rfl ?_
            refine e_putI q_105 rfl rfl rfl ?_
            refine e_load q_105 rfl rfl rfl ?_
            refine e_ireturn q_105 rfl rfl ?_
            show Ev S (d + 1) 86 27 [some (.inr (some 0)), some (.inl x1), some (.inl x2), some (.inl x3), some (.inr (some r2))] [.inl (-100001)] (up σ 0 5 ((σ 0 5) + 1)) _
            exact e_ireturn q_86 rfl rfl h
          · replace h := h.2 c
            refine e_push q_70 rfl ?_
            refine e_goto q_70 rfl ?_
            refine e_zreturn q_70 rfl rfl (by decide) ?_
            show Ev S (d + 1) 86 23 [some (.inr (some 0)), some (.inl x1), some (.inl x2), some (.inl x3), some (.inr (some r2))] [.inl 1] σ _
            refine e_if (P := ¬ (1 : Int32) = 0) q_86 rfl m_c1 (fun _ => ?_) (fun c => absurd (by decide) c)
            refine e_load q_86 rfl rfl rfl ?_
            refine e_load q_86 rfl rfl rfl ?_
            refine e_load q_86 rfl rfl rfl ?_
            exact e_virt q_86 rfl rfl (Nat.le_of_ble_eq_true rfl) rfl rfl (Nat.le_of_ble_eq_true rfl) hr2.1 h
      · replace h := h.2 c
        refine e_push q_67 rfl ?_
        refine e_goto q_67 rfl ?_
        refine e_zreturn q_67 rfl rfl (by decide) ?_
        show Ev S (d + 1) 86 14 [some (.inr (some 0)), some (.inl x1), some (.inl x2), some (.inl x3), some (.inr (some r2))] [.inl 1] σ _
        refine e_if (P := (1 : Int32) = 0) q_86 rfl m_c0 (fun c => absurd c (by decide)) (fun _ => ?_)
        refine e_load q_86 rfl rfl rfl ?_
        refine e_push q_86 rfl ?_
        refine e_virt q_86 rfl rfl (Nat.le_of_ble_eq_true rfl) rfl rfl (Nat.le_of_ble_eq_true rfl) rfl ?_
        show Ev S d 105 0 [some (.inr (some 0)), some (.inl (-100002))] [] σ _
        refine e_load q_105 rfl rfl rfl ?_
        refine e_dup q_105 rfl ?_
        refine e_getI q_105 rfl rfl rfl ?_
        refine e_push q_105 rfl ?_
        refine e_bin (r := (σ 0 5) + 1) q_105 rfl rfl ?_
        refine e_putI q_105 rfl rfl rfl ?_
        refine e_load q_105 rfl rfl rfl ?_
        refine e_ireturn q_105 rfl rfl ?_
        show Ev S (d + 1) 86 18 [some (.inr (some 0)), some (.inl x1), some (.inl x2), some (.inl x3), some (.inr (some r2))] [.inl (-100002)] (up σ 0 5 ((σ 0 5) + 1)) _
        exact e_ireturn q_86 rfl rfl h
    · replace h := h.2 c
      refine e_push q_109 rfl ?_
      refine e_goto q_109 rfl ?_
      refine e_zreturn q_109 rfl rfl (by decide) ?_
      show Ev S (d + 1) 86 2 [some (.inr (some 0)), some (.inl x1), some (.inl x2), some (.inl x3), none] [.inl 1] σ _
      refine e_if (P := (1 : Int32) = 0) q_86 rfl m_c0 (fun c => absurd c (by decide)) (fun _ => ?_)
      refine e_load q_86 rfl rfl rfl ?_
      refine e_push q_86 rfl ?_
      refine e_virt q_86 rfl rfl (Nat.le_of_ble_eq_true rfl) rfl rfl (Nat.le_of_ble_eq_true rfl) rfl ?_
      show Ev S d 105 0 [some (.inr (some 0)), some (.inl (-100001))] [] σ _
      refine e_load q_105 rfl rfl rfl ?_
      refine e_dup q_105 rfl ?_
      refine e_getI q_105 rfl rfl rfl ?_
      refine e_push q_105 rfl ?_
      refine e_bin (r := (σ 0 5) + 1) q_105 rfl rfl ?_
      refine e_putI q_105 rfl rfl rfl ?_
      refine e_load q_105 rfl rfl rfl ?_
      refine e_ireturn q_105 rfl rfl ?_
      show Ev S (d + 1) 86 6 [some (.inr (some 0)), some (.inl x1), some (.inl x2), some (.inl x3), none] [.inl (-100001)] (up σ 0 5 ((σ 0 5) + 1)) _
      exact e_ireturn q_86 rfl rfl h
theorem g_86_32 {S : Nat × (Nat → Int32)} {d : Nat} {σ : Mem} {Q : MQ1} {o0 : Option MV} {o1 : Option MV} {o2 : Option MV} {o3 : Option MV} {o4 : Option MV}  (h : Q [.inl 0] σ) : Ev S (d + 1) 86 32 [o0, o1, o2, o3, o4] [] σ Q := by
  refine e_push q_86 rfl ?_
  exact e_ireturn q_86 rfl rfl h
theorem g_87_0 {S : Nat × (Nat → Int32)} {d : Nat} {σ : Mem} {Q : MQ1} {x1 : Int32} {x2 : Int32} {x3 : Int32} {x4 : Int32} {x5 : Int32}  (h : ((x1 < 0 → Q [.inl (-100001)] (up σ 0 5 ((σ 0 5) + 1))) ∧ (¬ (x1 < 0) → ((x1 < 4 → ((x3 < 0 → Q [.inl (-100001)] (up σ 0 5 ((σ 0 5) + 1))) ∧ (¬ (x3 < 0) → ((x3 < 4 → (∃ j1 r2 r2n : Nat, x1 = nI j1 ∧ ([52, 54, 56, 58] : List Nat)[j1]? = some r2 ∧ isSt r2 r2n ∧ (∃ j3 r4 r4n : Nat, x3 = nI j3 ∧ ([52, 54, 56, 58] : List Nat)[j3]? = some r4 ∧ isSt r4 r4n ∧ (((¬ (σ r2 1) = 0) → (((¬ (σ r4 1) = 0) → (((¬ (σ r2 1) = (σ r4 1)) → Q [.inl (-100004)] (up σ 0 5 ((σ 0 5) + 1))) ∧ (¬ (¬ (σ r2 1) = (σ r4 1)) → ((x2 < 0 → Q [.inl (-100001)] (up σ 0 5 ((σ 0 5) + 1))) ∧ (¬ (x2 < 0) → ((x5 < 0 → Q [.inl (-100001)] (up σ 0 5 ((σ 0 5) + 1))) ∧ (¬ (x5 < 0) → ((((σ r2 2) - x5) < x2 → Q [.inl (-100001)] (up σ 0 5 ((σ 0 5) + 1))) ∧ (¬ (((σ r2 2) - x5) < x2) → ((x4 < 0 → Q [.inl (-100001)] (up σ 0 5 ((σ 0 5) + 1))) ∧ (¬ (x4 < 0) → ((x5 < 0 → Q [.inl (-100001)] (up σ 0 5 ((σ 0 5) + 1))) ∧ (¬ (x5 < 0) → ((((σ r4 2) - x5) < x4 → Q [.inl (-100001)] (up σ 0 5 ((σ 0 5) + 1))) ∧ (¬ (((σ r4 2) - x5) < x4) → Ec S (d + 1) 73 [.inr (some r4), .inr (some r2), .inl x2, .inl x4, .inl x5] σ (fun rv σ' => Ev S (d + 2) 87 58 [some (.inr (some 0)), some (.inl x1), some (.inl x2), some (.inl x3), some (.inl x4), some (.inl x5), some (.inr (some r2)), some (.inr (some r4))] (rv ++ []) σ' Q)))))))))))))))) ∧ (¬ (¬ (σ r4 1) = 0) → Q [.inl (-100002)] (up σ 0 5 ((σ 0 5) + 1))))) ∧ (¬ (¬ (σ r2 1) = 0) → Q [.inl (-100002)] (up σ 0 5 ((σ 0 5) + 1))))))) ∧ (¬ (x3 < 4) → Q [.inl (-100001)] (up σ 0 5 ((σ 0 5) + 1))))))) ∧ (¬ (x1 < 4) → Q [.inl (-100001)] (up σ 0 5 ((σ 0 5) + 1))))))) : Ev S (d + 2) 87 0 [some (.inr (some 0)), some (.inl x1), some (.inl x2), some (.inl x3), some (.inl x4), some (.inl x5), none, none] [] σ Q := by
  refine e_load q_87 rfl rfl rfl ?_
  refine e_stat q_87 rfl (Nat.le_of_ble_eq_true rfl) rfl rfl (Nat.le_of_ble_eq_true rfl) ?_
  show Ev S (d + 1) 109 0 [some (.inl x1)] [] σ _
  refine e_load q_109 rfl rfl rfl ?_
  refine e_if (P := x1 < 0) q_109 rfl m_c2 (fun c => ?_) (fun c => ?_)
  · replace h := h.1 c
    refine e_push q_109 rfl ?_
    refine e_goto q_109 rfl ?_
    refine e_zreturn q_109 rfl rfl (by decide) ?_
    show Ev S (d + 2) 87 2 [some (.inr (some 0)), some (.inl x1), some (.inl x2), some (.inl x3), some (.inl x4), some (.inl x5), none, none] [.inl 1] σ _
    refine e_if (P := ¬ (1 : Int32) = 0) q_87 rfl m_c1 (fun _ => ?_) (fun c => absurd (by decide) c)
    refine e_load q_87 rfl rfl rfl ?_
    refine e_push q_87 rfl ?_
    refine e_virt q_87 rfl rfl (Nat.le_of_ble_eq_true rfl) rfl rfl (Nat.le_of_ble_eq_true rfl) rfl ?_
    show Ev S (d + 1) 105 0 [some (.inr (some 0)), some (.inl (-100001))] [] σ _
    refine e_load q_105 rfl rfl rfl ?_
    refine e_dup q_105 rfl ?_
    refine e_getI q_105 rfl rfl rfl ?_
    refine e_push q_105 rfl ?_
    refine e_bin (r := (σ 0 5) + 1) q_105 rfl rfl ?_
    refine e_putI q_105 rfl rfl rfl ?_
    refine e_load q_105 rfl rfl rfl ?_
    refine e_ireturn q_105 rfl rfl ?_
    show Ev S (d + 2) 87 9 [some (.inr (some 0)), some (.inl x1), some (.inl x2), some (.inl x3), some (.inl x4), some (.inl x5), none, none] [.inl (-100001)] (up σ 0 5 ((σ 0 5) + 1)) _
    exact e_ireturn q_87 rfl rfl h
  · replace h := h.2 c
    refine e_load q_109 rfl rfl rfl ?_
    refine e_push q_109 rfl ?_
    refine e_icmp (P := x1 < 4) q_109 rfl m_c2 (fun c => ?_) (fun c => ?_)
    · replace h := h.1 c
      refine e_push q_109 rfl ?_
      refine e_zreturn q_109 rfl rfl (by decide) ?_
      show Ev S (d + 2) 87 2 [some (.inr (some 0)), some (.inl x1), some (.inl x2), some (.inl x3), some (.inl x4), some (.inl x5), none, none] [.inl 0] σ _
      refine e_if (P := ¬ (0 : Int32) = 0) q_87 rfl m_c1 (fun c => absurd c (by decide)) (fun _ => ?_)
      refine e_load q_87 rfl rfl rfl ?_
      refine e_stat q_87 rfl (Nat.le_of_ble_eq_true rfl) rfl rfl (Nat.le_of_ble_eq_true rfl) ?_
      show Ev S (d + 1) 109 0 [some (.inl x3)] [] σ _
      refine e_load q_109 rfl rfl rfl ?_
      refine e_if (P := x3 < 0) q_109 rfl m_c2 (fun c => ?_) (fun c => ?_)
      · replace h := h.1 c
        refine e_push q_109 rfl ?_
        refine e_goto q_109 rfl ?_
        refine e_zreturn q_109 rfl rfl (by decide) ?_
        show Ev S (d + 2) 87 5 [some (.inr (some 0)), some (.inl x1), some (.inl x2), some (.inl x3), some (.inl x4), some (.inl x5), none, none] [.inl 1] σ _
        refine e_if (P := (1 : Int32) = 0) q_87 rfl m_c0 (fun c => absurd c (by decide)) (fun _ => ?_)
        refine e_load q_87 rfl rfl rfl ?_
        refine e_push q_87 rfl ?_
        refine e_virt q_87 rfl rfl (Nat.le_of_ble_eq_true rfl) rfl rfl (Nat.le_of_ble_eq_true rfl) rfl ?_
        show Ev S (d + 1) 105 0 [some (.inr (some 0)), some (.inl (-100001))] [] σ _
        refine e_load q_105 rfl rfl rfl ?_
        refine e_dup q_105 rfl ?_
        refine e_getI q_105 rfl rfl rfl ?_
        refine e_push q_105 rfl ?_
        refine e_bin (r := (σ 0 5) + 1) q_105 rfl rfl ?_
        refine e_putI q_105 rfl rfl rfl ?_
        refine e_load q_105 rfl rfl rfl ?_
        refine e_ireturn q_105 rfl rfl ?_
        show Ev S (d + 2) 87 9 [some (.inr (some 0)), some (.inl x1), some (.inl x2), some (.inl x3), some (.inl x4), some (.inl x5), none, none] [.inl (-100001)] (up σ 0 5 ((σ 0 5) + 1)) _
        exact e_ireturn q_87 rfl rfl h
      · replace h := h.2 c
        refine e_load q_109 rfl rfl rfl ?_
        refine e_push q_109 rfl ?_
        refine e_icmp (P := x3 < 4) q_109 rfl m_c2 (fun c => ?_) (fun c => ?_)
        · replace h := h.1 c
          refine e_push q_109 rfl ?_
          refine e_zreturn q_109 rfl rfl (by decide) ?_
          show Ev S (d + 2) 87 5 [some (.inr (some 0)), some (.inl x1), some (.inl x2), some (.inl x3), some (.inl x4), some (.inl x5), none, none] [.inl 0] σ _
          refine e_if (P := (0 : Int32) = 0) q_87 rfl m_c0 (fun _ => ?_) (fun c => absurd (by decide) c)
          refine e_load q_87 rfl rfl rfl ?_
          refine e_getR q_87 rfl rfl rfl ?_
          refine e_load q_87 rfl rfl rfl ?_
          obtain ⟨j1, r2, r2n, hjj1, hlj1, hr2, h⟩ := h
          refine e_aald q_87 rfl rfl (by decide) hjj1 hlj1 (by have := (List.getElem?_eq_some_iff.mp hlj1).1; simp at this; omega) ?_
          refine e_store (ls' := [some (.inr (some 0)), some (.inl x1), some (.inl x2), some (.inl x3), some (.inl x4), some (.inl x5), some (.inr (some r2)), none]) q_87 rfl (Nat.le_of_ble_eq_true rfl) rfl rfl ?_
          refine e_load q_87 rfl rfl rfl ?_
          refine e_getR q_87 rfl rfl rfl ?_
          refine e_load q_87 rfl rfl rfl ?_
          obtain ⟨j3, r4, r4n, hjj3, hlj3, hr4, h⟩ := h
          refine e_aald q_87 rfl rfl (by decide) hjj3 hlj3 (by have := (List.getElem?_eq_some_iff.mp hlj3).1; simp at this; omega) ?_
          refine e_store (ls' := [some (.inr (some 0)), some (.inl x1), some (.inl x2), some (.inl x3), some (.inl x4), some (.inl x5), some (.inr (some r2)), some (.inr (some r4))]) q_87 rfl (Nat.le_of_ble_eq_true rfl) rfl rfl ?_
          refine e_load q_87 rfl rfl rfl ?_
          refine e_virt q_87 rfl rfl (Nat.le_of_ble_eq_true rfl) rfl rfl (Nat.le_of_ble_eq_true rfl) hr2.1 ?_
          show Ev S (d + 1) 67 0 [some (.inr (some r2))] [] σ _
          refine e_load q_67 rfl rfl rfl ?_
          refine e_getI q_67 rfl hr2.1 rfl ?_
          refine e_if (P := ¬ (σ r2 1) = 0) q_67 rfl m_c1 (fun c => ?_) (fun c => ?_)
          · replace h := h.1 c
            refine e_push q_67 rfl ?_
            refine e_zreturn q_67 rfl rfl (by decide) ?_
            show Ev S (d + 2) 87 22 [some (.inr (some 0)), some (.inl x1), some (.inl x2), some (.inl x3), some (.inl x4), some (.inl x5), some (.inr (some r2)), some (.inr (some r4))] [.inl 0] σ _
            refine e_if (P := ¬ (0 : Int32) = 0) q_87 rfl m_c1 (fun c => absurd c (by decide)) (fun _ => ?_)
            refine e_load q_87 rfl rfl rfl ?_
            refine e_virt q_87 rfl rfl (Nat.le_of_ble_eq_true rfl) rfl rfl (Nat.le_of_ble_eq_true rfl) hr4.1 ?_
            show Ev S (d + 1) 67 0 [some (.inr (some r4))] [] σ _
            refine e_load q_67 rfl rfl rfl ?_
            refine e_getI q_67 rfl hr4.1 rfl ?_
            refine e_if (P := ¬ (σ r4 1) = 0) q_67 rfl m_c1 (fun c => ?_) (fun c => ?_)
            · replace h := h.1 c
              refine e_push q_67 rfl ?_
              refine e_zreturn q_67 rfl rfl (by decide) ?_
              show Ev S (d + 2) 87 25 [some (.inr (some 0)), some (.inl x1), some (.inl x2), some (.inl x3), some (.inl x4), some (.inl x5), some (.inr (some r2)), some (.inr (some r4))] [.inl 0] σ _
              refine e_if (P := (0 : Int32) = 0) q_87 rfl m_c0 (fun _ => ?_) (fun c => absurd (by decide) c)
              refine e_load q_87 rfl rfl rfl ?_
              refine e_load q_87 rfl rfl rfl ?_
              refine e_virt q_87 rfl rfl (Nat.le_of_ble_eq_true rfl) rfl rfl (Nat.le_of_ble_eq_true rfl) hr2.1 ?_
              show Ev S (d + 1) 68 0 [some (.inr (some r2)), some (.inr (some r4))] [] σ _
              refine e_load q_68 rfl rfl rfl ?_
              refine e_getI q_68 rfl hr2.1 rfl ?_
              refine e_load q_68 rfl rfl rfl ?_
              refine e_getI q_68 rfl hr4.1 rfl ?_
              refine e_icmp (P := ¬ (σ r2 1) = (σ r4 1)) q_68 rfl m_c1 (fun c => ?_) (fun c => ?_)
              · replace h := h.1 c
                refine e_push q_68 rfl ?_
                refine e_zreturn q_68 rfl rfl (by decide) ?_
                show Ev S (d + 2) 87 33 [some (.inr (some 0)), some (.inl x1), some (.inl x2), some (.inl x3), some (.inl x4), some (.inl x5), some (.inr (some r2)), some (.inr (some r4))] [.inl 0] σ _
                refine e_if (P := ¬ (0 : Int32) = 0) q_87 rfl m_c1 (fun c => absurd c (by decide)) (fun _ => ?_)
                refine e_load q_87 rfl rfl rfl ?_
                refine e_push q_87 rfl ?_
                refine e_virt q_87 rfl rfl (Nat.le_of_ble_eq_true rfl) rfl rfl (Nat.le_of_ble_eq_true rfl) rfl ?_
                show Ev S (d + 1) 105 0 [some (.inr (some 0)), some (.inl (-100004))] [] σ _
                refine e_load q_105 rfl rfl rfl ?_
                refine e_dup q_105 rfl ?_
                refine e_getI q_105 rfl rfl rfl ?_
                refine e_push q_105 rfl ?_
                refine e_bin (r := (σ 0 5) + 1) q_105 rfl rfl ?_
                refine e_putI q_105 rfl rfl rfl ?_
                refine e_load q_105 rfl rfl rfl ?_
                refine e_ireturn q_105 rfl rfl ?_
                show Ev S (d + 2) 87 37 [some (.inr (some 0)), some (.inl x1), some (.inl x2), some (.inl x3), some (.inl x4), some (.inl x5), some (.inr (some r2)), some (.inr (some r4))] [.inl (-100004)] (up σ 0 5 ((σ 0 5) + 1)) _
                exact e_ireturn q_87 rfl rfl h
              · replace h := h.2 c
                refine e_push q_68 rfl ?_
                refine e_goto q_68 rfl ?_
                refine e_zreturn q_68 rfl rfl (by decide) ?_
                show Ev S (d + 2) 87 33 [some (.inr (some 0)), some (.inl x1), some (.inl x2), some (.inl x3), some (.inl x4), some (.inl x5), some (.inr (some r2)), some (.inr (some r4))] [.inl 1] σ _
                refine e_if (P := ¬ (1 : Int32) = 0) q_87 rfl m_c1 (fun _ => ?_) (fun c => absurd (by decide) c)
                refine e_load q_87 rfl rfl rfl ?_
                refine e_load q_87 rfl rfl rfl ?_
                refine e_load q_87 rfl rfl rfl ?_
                refine e_virt q_87 rfl rfl (Nat.le_of_ble_eq_true rfl) rfl rfl (Nat.le_of_ble_eq_true rfl) hr2.1 ?_
                show Ev S (d + 1) 70 0 [some (.inr (some r2)), some (.inl x2), some (.inl x5)] [] σ _
                refine e_load q_70 rfl rfl rfl ?_
                refine e_if (P := x2 < 0) q_70 rfl m_c2 (fun c => ?_) (fun c => ?_)
                · replace h := h.1 c
                  refine e_push q_70 rfl ?_
                  refine e_zreturn q_70 rfl rfl (by decide) ?_
                  show Ev S (d + 2) 87 42 [some (.inr (some 0)), some (.inl x1), some (.inl x2), some (.inl x3), some (.inl x4), some (.inl x5), some (.inr (some r2)), some (.inr (some r4))] [.inl 0] σ _
                  refine e_if (P := (0 : Int32) = 0) q_87 rfl m_c0 (fun _ => ?_) (fun c => absurd (by decide) c)
                  refine e_load q_87 rfl rfl rfl ?_
                  refine e_push q_87 rfl ?_
                  refine e_virt q_87 rfl rfl (Nat.le_of_ble_eq_true rfl) rfl rfl (Nat.le_of_ble_eq_true rfl) rfl ?_
                  show Ev S (d + 1) 105 0 [some (.inr (some 0)), some (.inl (-100001))] [] σ _
                  refine e_load q_105 rfl rfl rfl ?_
                  refine e_dup q_105 rfl ?_
                  refine e_getI q_105 rfl rfl rfl ?_
                  refine e_push q_105 rfl ?_
                  refine e_bin (r := (σ 0 5) + 1) q_105 rfl rfl ?_
                  refine e_putI q_105 rfl rfl rfl ?_
                  refine e_load q_105 rfl rfl rfl ?_
                  refine e_ireturn q_105 rfl rfl ?_
                  show Ev S (d + 2) 87 51 [some (.inr (some 0)), some (.inl x1), some (.inl x2), some (.inl x3), some (.inl x4), some (.inl x5), some (.inr (some r2)), some (.inr (some r4))] [.inl (-100001)] (up σ 0 5 ((σ 0 5) + 1)) _
                  exact e_ireturn q_87 rfl rfl h
                · replace h := h.2 c
                  refine e_load q_70 rfl rfl rfl ?_
                  refine e_if (P := x5 < 0) q_70 rfl m_c2 (fun c => ?_) (fun c => ?_)
                  · replace h := h.1 c
                    refine e_push q_70 rfl ?_
                    refine e_zreturn q_70 rfl rfl (by decide) ?_
                    show Ev S (d + 2) 87 42 [some (.inr (some 0)), some (.inl x1), some (.inl x2), some (.inl x3), some (.inl x4), some (.inl x5), some (.inr (some r2)), some (.inr (some r4))] [.inl 0] σ _
                    refine e_if (P := (0 : Int32) = 0) q_87 rfl m_c0 (fun _ => ?_) (fun c => absurd (by decide) c)
                    refine e_load q_87 rfl rfl rfl ?_
                    refine e_push q_87 rfl ?_
                    refine e_virt q_87 rfl rfl (Nat.le_of_ble_eq_true rfl) rfl rfl (Nat.le_of_ble_eq_true rfl) rfl ?_
                    show Ev S (d + 1) 105 0 [some (.inr (some 0)), some (.inl (-100001))] [] σ _
                    refine e_load q_105 rfl rfl rfl ?_
                    refine e_dup q_105 rfl ?_
                    refine e_getI q_105 rfl rfl rfl ?_
                    refine e_push q_105 rfl ?_
                    refine e_bin (r := (σ 0 5) + 1) q_105 rfl rfl ?_
                    refine e_putI q_105 rfl rfl rfl ?_
                    refine e_load q_105 rfl rfl rfl ?_
                    refine e_ireturn q_105 rfl rfl ?_
                    show Ev S (d + 2) 87 51 [some (.inr (some 0)), some (.inl x1), some (.inl x2), some (.inl x3), some (.inl x4), some (.inl x5), some (.inr (some r2)), some (.inr (some r4))] [.inl (-100001)] (up σ 0 5 ((σ 0 5) + 1)) _
                    exact e_ireturn q_87 rfl rfl h
                  · replace h := h.2 c
                    refine e_load q_70 rfl rfl rfl ?_
                    refine e_load q_70 rfl rfl rfl ?_
                    refine e_getI q_70 rfl hr2.1 rfl ?_
                    refine e_load q_70 rfl rfl rfl ?_
                    refine e_bin (r := (σ r2 2) - x5) q_70 rfl rfl ?_
                    refine e_icmp (P := ((σ r2 2) - x5) < x2) q_70 rfl m_c4 (fun c => ?_) (fun c => ?_)
                    · replace h := h.1 c
                      refine e_push q_70 rfl ?_
                      refine e_zreturn q_70 rfl rfl (by decide) ?_
                      show Ev S (d + 2) 87 42 [some (.inr (some 0)), some (.inl x1), some (.inl x2), some (.inl x3), some (.inl x4), some (.inl x5), some (.inr (some r2)), some (.inr (some r4))] [.inl 0] σ _
                      refine e_if (P := (0 : Int32) = 0) q_87 rfl m_c0 (fun _ => ?_) (fun c => absurd (by decide) c)
                      refine e_load q_87 rfl rfl rfl ?_
                      refine e_push q_87 rfl ?_
                      refine e_virt q_87 rfl rfl (Nat.le_of_ble_eq_true rfl) rfl rfl (Nat.le_of_ble_eq_true rfl) rfl ?_
                      show Ev S (d + 1) 105 0 [some (.inr (some 0)), some (.inl (-100001))] [] σ _
                      refine e_load q_105 rfl rfl rfl ?_
                      refine e_dup q_105 rfl ?_
                      refine e_getI q_105 rfl rfl rfl ?_
                      refine e_push q_105 rfl ?_
                      refine e_bin (r := (σ 0 5) + 1) q_105 rfl rfl ?_
                      refine e_putI q_105 rfl rfl rfl ?_
                      refine e_load q_105 rfl rfl rfl ?_
                      refine e_ireturn q_105 rfl rfl ?_
                      show Ev S (d + 2) 87 51 [some (.inr (some 0)), some (.inl x1), some (.inl x2), some (.inl x3), some (.inl x4), some (.inl x5), some (.inr (some r2)), some (.inr (some r4))] [.inl (-100001)] (up σ 0 5 ((σ 0 5) + 1)) _
                      exact e_ireturn q_87 rfl rfl h
                    · replace h := h.2 c
                      refine e_push q_70 rfl ?_
                      refine e_goto q_70 rfl ?_
                      refine e_zreturn q_70 rfl rfl (by decide) ?_
                      show Ev S (d + 2) 87 42 [some (.inr (some 0)), some (.inl x1), some (.inl x2), some (.inl x3), some (.inl x4), some (.inl x5), some (.inr (some r2)), some (.inr (some r4))] [.inl 1] σ _
                      refine e_if (P := (1 : Int32) = 0) q_87 rfl m_c0 (fun c => absurd c (by decide)) (fun _ => ?_)
                      refine e_load q_87 rfl rfl rfl ?_
                      refine e_load q_87 rfl rfl rfl ?_
                      refine e_load q_87 rfl rfl rfl ?_
                      refine e_virt q_87 rfl rfl (Nat.le_of_ble_eq_true rfl) rfl rfl (Nat.le_of_ble_eq_true rfl) hr4.1 ?_
                      show Ev S (d + 1) 70 0 [some (.inr (some r4)), some (.inl x4), some (.inl x5)] [] σ _
                      refine e_load q_70 rfl rfl rfl ?_
                      refine e_if (P := x4 < 0) q_70 rfl m_c2 (fun c => ?_) (fun c => ?_)
                      · replace h := h.1 c
                        refine e_push q_70 rfl ?_
                        refine e_zreturn q_70 rfl rfl (by decide) ?_
                        show Ev S (d + 2) 87 47 [some (.inr (some 0)), some (.inl x1), some (.inl x2), some (.inl x3), some (.inl x4), some (.inl x5), some (.inr (some r2)), some (.inr (some r4))] [.inl 0] σ _
                        refine e_if (P := ¬ (0 : Int32) = 0) q_87 rfl m_c1 (fun c => absurd c (by decide)) (fun _ => ?_)
                        refine e_load q_87 rfl rfl rfl ?_
                        refine e_push q_87 rfl ?_
                        refine e_virt q_87 rfl rfl (Nat.le_of_ble_eq_true rfl) rfl rfl (Nat.le_of_ble_eq_true rfl) rfl ?_
                        show Ev S (d + 1) 105 0 [some (.inr (some 0)), some (.inl (-100001))] [] σ _
                        refine e_load q_105 rfl rfl rfl ?_
                        refine e_dup q_105 rfl ?_
                        refine e_getI q_105 rfl rfl rfl ?_
                        refine e_push q_105 rfl ?_
                        refine e_bin (r := (σ 0 5) + 1) q_105 rfl rfl ?_
                        refine e_putI q_105 rfl rfl rfl ?_
                        refine e_load q_105 rfl rfl rfl ?_
                        refine e_ireturn q_105 rfl rfl ?_
                        show Ev S (d + 2) 87 51 [some (.inr (some 0)), some (.inl x1), some (.inl x2), some (.inl x3), some (.inl x4), some (.inl x5), some (.inr (some r2)), some (.inr (some r4))] [.inl (-100001)] (up σ 0 5 ((σ 0 5) + 1)) _
                        exact e_ireturn q_87 rfl rfl h
                      · replace h := h.2 c
                        refine e_load q_70 rfl rfl rfl ?_
                        refine e_if (P := x5 < 0) q_70 rfl m_c2 (fun c => ?_) (fun c => ?_)
                        · replace h := h.1 c
                          refine e_push q_70 rfl ?_
                          refine e_zreturn q_70 rfl rfl (by decide) ?_
                          show Ev S (d + 2) 87 47 [some (.inr (some 0)), some (.inl x1), some (.inl x2), some (.inl x3), some (.inl x4), some (.inl x5), some (.inr (some r2)), some (.inr (some r4))] [.inl 0] σ _
                          refine e_if (P := ¬ (0 : Int32) = 0) q_87 rfl m_c1 (fun c => absurd c (by decide)) (fun _ => ?_)
                          refine e_load q_87 rfl rfl rfl ?_
                          refine e_push q_87 rfl ?_
                          refine e_virt q_87 rfl rfl (Nat.le_of_ble_eq_true rfl) rfl rfl (Nat.le_of_ble_eq_true rfl) rfl ?_
                          show Ev S (d + 1) 105 0 [some (.inr (some 0)), some (.inl (-100001))] [] σ _
                          refine e_load q_105 rfl rfl rfl ?_
                          refine e_dup q_105 rfl ?_
                          refine e_getI q_105 rfl rfl rfl ?_
                          refine e_push q_105 rfl ?_
                          refine e_bin (r := (σ 0 5) + 1) q_105 rfl rfl ?_
                          refine e_putI q_105 rfl rfl rfl ?_
                          refine e_load q_105 rfl rfl rfl ?_
                          refine e_ireturn q_105 rfl rfl ?_
                          show Ev S (d + 2) 87 51 [some (.inr (some 0)), some (.inl x1), some (.inl x2), some (.inl x3), some (.inl x4), some (.inl x5), some (.inr (some r2)), some (.inr (some r4))] [.inl (-100001)] (up σ 0 5 ((σ 0 5) + 1)) _
                          exact e_ireturn q_87 rfl rfl h
                        · replace h := h.2 c
                          refine e_load q_70 rfl rfl rfl ?_
                          refine e_load q_70 rfl rfl rfl ?_
                          refine e_getI q_70 rfl hr4.1 rfl ?_
                          refine e_load q_70 rfl rfl rfl ?_
                          refine e_bin (r := (σ r4 2) - x5) q_70 rfl rfl ?_
                          refine e_icmp (P := ((σ r4 2) - x5) < x4) q_70 rfl m_c4 (fun c => ?_) (fun c => ?_)
                          · replace h := h.1 c
                            refine e_push q_70 rfl ?_
                            refine e_zreturn q_70 rfl rfl (by decide) ?_
                            show Ev S (d + 2) 87 47 [some (.inr (some 0)), some (.inl x1), some (.inl x2), some (.inl x3), some (.inl x4), some (.inl x5), some (.inr (some r2)), some (.inr (some r4))] [.inl 0] σ _
                            refine e_if (P := ¬ (0 : Int32) = 0) q_87 rfl m_c1 (fun c => absurd c (by decide)) (fun _ => ?_)
                            refine e_load q_87 rfl rfl rfl ?_
                            refine e_push q_87 rfl ?_
                            refine e_virt q_87 rfl rfl (Nat.le_of_ble_eq_true rfl) rfl rfl (Nat.le_of_ble_eq_true rfl) rfl ?_
                            show Ev S (d + 1) 105 0 [some (.inr (some 0)), some (.inl (-100001))] [] σ _
                            refine e_load q_105 rfl rfl rfl ?_
                            refine e_dup q_105 rfl ?_
                            refine e_getI q_105 rfl rfl rfl ?_
                            refine e_push q_105 rfl ?_
                            refine e_bin (r := (σ 0 5) + 1) q_105 rfl rfl ?_
                            refine e_putI q_105 rfl rfl rfl ?_
                            refine e_load q_105 rfl rfl rfl ?_
                            refine e_ireturn q_105 rfl rfl ?_
                            show Ev S (d + 2) 87 51 [some (.inr (some 0)), some (.inl x1), some (.inl x2), some (.inl x3), some (.inl x4), some (.inl x5), some (.inr (some r2)), some (.inr (some r4))] [.inl (-100001)] (up σ 0 5 ((σ 0 5) + 1)) _
                            exact e_ireturn q_87 rfl rfl h
                          · replace h := h.2 c
                            refine e_push q_70 rfl ?_
                            refine e_goto q_70 rfl ?_
                            refine e_zreturn q_70 rfl rfl (by decide) ?_
                            show Ev S (d + 2) 87 47 [some (.inr (some 0)), some (.inl x1), some (.inl x2), some (.inl x3), some (.inl x4), some (.inl x5), some (.inr (some r2)), some (.inr (some r4))] [.inl 1] σ _
                            refine e_if (P := ¬ (1 : Int32) = 0) q_87 rfl m_c1 (fun _ => ?_) (fun c => absurd (by decide) c)
                            refine e_load q_87 rfl rfl rfl ?_
                            refine e_load q_87 rfl rfl rfl ?_
                            refine e_load q_87 rfl rfl rfl ?_
                            refine e_load q_87 rfl rfl rfl ?_
                            refine e_load q_87 rfl rfl rfl ?_
                            exact e_virt q_87 rfl rfl (Nat.le_of_ble_eq_true rfl) rfl rfl (Nat.le_of_ble_eq_true rfl) hr4.1 h
            · replace h := h.2 c
              refine e_push q_67 rfl ?_
              refine e_goto q_67 rfl ?_
              refine e_zreturn q_67 rfl rfl (by decide) ?_
              show Ev S (d + 2) 87 25 [some (.inr (some 0)), some (.inl x1), some (.inl x2), some (.inl x3), some (.inl x4), some (.inl x5), some (.inr (some r2)), some (.inr (some r4))] [.inl 1] σ _
              refine e_if (P := (1 : Int32) = 0) q_87 rfl m_c0 (fun c => absurd c (by decide)) (fun _ => ?_)
              refine e_load q_87 rfl rfl rfl ?_
              refine e_push q_87 rfl ?_
              refine e_virt q_87 rfl rfl (Nat.le_of_ble_eq_true rfl) rfl rfl (Nat.le_of_ble_eq_true rfl) rfl ?_
              show Ev S (d + 1) 105 0 [some (.inr (some 0)), some (.inl (-100002))] [] σ _
              refine e_load q_105 rfl rfl rfl ?_
              refine e_dup q_105 rfl ?_
              refine e_getI q_105 rfl rfl rfl ?_
              refine e_push q_105 rfl ?_
              refine e_bin (r := (σ 0 5) + 1) q_105 rfl rfl ?_
              refine e_putI q_105 rfl rfl rfl ?_
              refine e_load q_105 rfl rfl rfl ?_
              refine e_ireturn q_105 rfl rfl ?_
              show Ev S (d + 2) 87 29 [some (.inr (some 0)), some (.inl x1), some (.inl x2), some (.inl x3), some (.inl x4), some (.inl x5), some (.inr (some r2)), some (.inr (some r4))] [.inl (-100002)] (up σ 0 5 ((σ 0 5) + 1)) _
              exact e_ireturn q_87 rfl rfl h
          · replace h := h.2 c
            refine e_push q_67 rfl ?_
            refine e_goto q_67 rfl ?_
            refine e_zreturn q_67 rfl rfl (by decide) ?_
            show Ev S (d + 2) 87 22 [some (.inr (some 0)), some (.inl x1), some (.inl x2), some (.inl x3), some (.inl x4), some (.inl x5), some (.inr (some r2)), some (.inr (some r4))] [.inl 1] σ _
            refine e_if (P := ¬ (1 : Int32) = 0) q_87 rfl m_c1 (fun _ => ?_) (fun c => absurd (by decide) c)
            refine e_load q_87 rfl rfl rfl ?_
            refine e_push q_87 rfl ?_
            refine e_virt q_87 rfl rfl (Nat.le_of_ble_eq_true rfl) rfl rfl (Nat.le_of_ble_eq_true rfl) rfl ?_
            show Ev S (d + 1) 105 0 [some (.inr (some 0)), some (.inl (-100002))] [] σ _
            refine e_load q_105 rfl rfl rfl ?_
            refine e_dup q_105 rfl ?_
            refine e_getI q_105 rfl rfl rfl ?_
            refine e_push q_105 rfl ?_
            refine e_bin (r := (σ 0 5) + 1) q_105 rfl rfl ?_
            refine e_putI q_105 rfl rfl rfl ?_
            refine e_load q_105 rfl rfl rfl ?_
            refine e_ireturn q_105 rfl rfl ?_
            show Ev S (d + 2) 87 29 [some (.inr (some 0)), some (.inl x1), some (.inl x2), some (.inl x3), some (.inl x4), some (.inl x5), some (.inr (some r2)), some (.inr (some r4))] [.inl (-100002)] (up σ 0 5 ((σ 0 5) + 1)) _
            exact e_ireturn q_87 rfl rfl h
        · replace h := h.2 c
          refine e_push q_109 rfl ?_
          refine e_goto q_109 rfl ?_
          refine e_zreturn q_109 rfl rfl (by decide) ?_
          show Ev S (d + 2) 87 5 [some (.inr (some 0)), some (.inl x1), some (.inl x2), some (.inl x3), some (.inl x4), some (.inl x5), none, none] [.inl 1] σ _
          refine e_if (P := (1 : Int32) = 0) q_87 rfl m_c0 (fun c => absurd c (by decide)) (fun _ => ?_)
          refine e_load q_87 rfl rfl rfl ?_
          refine e_push q_87 rfl ?_
          refine e_virt q_87 rfl rfl (Nat.le_of_ble_eq_true rfl) rfl rfl (Nat.le_of_ble_eq_true rfl) rfl ?_
          show Ev S (d + 1) 105 0 [some (.inr (some 0)), some (.inl (-100001))] [] σ _
          refine e_load q_105 rfl rfl rfl ?_
          refine e_dup q_105 rfl ?_
          refine e_getI q_105 rfl rfl rfl ?_
          refine e_push q_105 rfl ?_
          refine e_bin (r := (σ 0 5) + 1) q_105 rfl rfl ?_
          refine e_putI q_105 rfl rfl rfl ?_
          refine e_load q_105 rfl rfl rfl ?_
          refine e_ireturn q_105 rfl rfl ?_
          show Ev S (d + 2) 87 9 [some (.inr (some 0)), some (.inl x1), some (.inl x2), some (.inl x3), some (.inl x4), some (.inl x5), none, none] [.inl (-100001)] (up σ 0 5 ((σ 0 5) + 1)) _
          exact e_ireturn q_87 rfl rfl h
    · replace h := h.2 c
      refine e_push q_109 rfl ?_
      refine e_goto q_109 rfl ?_
      refine e_zreturn q_109 rfl rfl (by decide) ?_
      show Ev S (d + 2) 87 2 [some (.inr (some 0)), some (.inl x1), some (.inl x2), some (.inl x3), some (.inl x4), some (.inl x5), none, none] [.inl 1] σ _
      refine e_if (P := ¬ (1 : Int32) = 0) q_87 rfl m_c1 (fun _ => ?_) (fun c => absurd (by decide) c)
      refine e_load q_87 rfl rfl rfl ?_
      refine e_push q_87 rfl ?_
      refine e_virt q_87 rfl rfl (Nat.le_of_ble_eq_true rfl) rfl rfl (Nat.le_of_ble_eq_true rfl) rfl ?_
      show Ev S (d + 1) 105 0 [some (.inr (some 0)), some (.inl (-100001))] [] σ _
      refine e_load q_105 rfl rfl rfl ?_
      refine e_dup q_105 rfl ?_
      refine e_getI q_105 rfl rfl rfl ?_
      refine e_push q_105 rfl ?_
      refine e_bin (r := (σ 0 5) + 1) q_105 rfl rfl ?_
      refine e_putI q_105 rfl rfl rfl ?_
      refine e_load q_105 rfl rfl rfl ?_
      refine e_ireturn q_105 rfl rfl ?_
      show Ev S (d + 2) 87 9 [some (.inr (some 0)), some (.inl x1), some (.inl x2), some (.inl x3), some (.inl x4), some (.inl x5), none, none] [.inl (-100001)] (up σ 0 5 ((σ 0 5) + 1)) _
      exact e_ireturn q_87 rfl rfl h
theorem g_87_58 {S : Nat × (Nat → Int32)} {d : Nat} {σ : Mem} {Q : MQ1} {o0 : Option MV} {o1 : Option MV} {o2 : Option MV} {o3 : Option MV} {o4 : Option MV} {x5 : Int32} {o6 : Option MV} {o7 : Option MV}  (h : Q [.inl x5] σ) : Ev S (d + 2) 87 58 [o0, o1, o2, o3, o4, some (.inl x5), o6, o7] [] σ Q := by
  refine e_load q_87 rfl rfl rfl ?_
  exact e_ireturn q_87 rfl rfl h
theorem g_88_0 {S : Nat × (Nat → Int32)} {d : Nat} {σ : Mem} {Q : MQ1} {x1 : Int32}  (h : ((x1 < 0 → Q [.inl (-100001)] (up σ 0 5 ((σ 0 5) + 1))) ∧ (¬ (x1 < 0) → ((x1 < 4 → (∃ j1 r2 r2n : Nat, x1 = nI j1 ∧ ([52, 54, 56, 58] : List Nat)[j1]? = some r2 ∧ isSt r2 r2n ∧ (((¬ (σ r2 1) = 0) → Ev S (d + 3) 88 26 [some (.inr (some 0)), some (.inl x1), some (.inr (some r2)), some (.inl (if 6 < σ r2 2 then 6 else σ r2 2)), some (.inl 0), none] [] σ Q) ∧ (¬ (¬ (σ r2 1) = 0) → Q [.inl (-100002)] (up σ 0 5 ((σ 0 5) + 1)))))) ∧ (¬ (x1 < 4) → Q [.inl (-100001)] (up σ 0 5 ((σ 0 5) + 1))))))) : Ev S (d + 3) 88 0 [some (.inr (some 0)), some (.inl x1), none, none, none, none] [] σ Q := by
  refine e_load q_88 rfl rfl rfl ?_
  refine e_stat q_88 rfl (Nat.le_of_ble_eq_true rfl) rfl rfl (Nat.le_of_ble_eq_true rfl) ?_
  show Ev S (d + 2) 109 0 [some (.inl x1)] [] σ _
  refine e_load q_109 rfl rfl rfl ?_
  refine e_if (P := x1 < 0) q_109 rfl m_c2 (fun c => ?_) (fun c => ?_)
  · replace h := h.1 c
    refine e_push q_109 rfl ?_
    refine e_goto q_109 rfl ?_
    refine e_zreturn q_109 rfl rfl (by decide) ?_
    show Ev S (d + 3) 88 2 [some (.inr (some 0)), some (.inl x1), none, none, none, none] [.inl 1] σ _
    refine e_if (P := (1 : Int32) = 0) q_88 rfl m_c0 (fun c => absurd c (by decide)) (fun _ => ?_)
    refine e_load q_88 rfl rfl rfl ?_
    refine e_push q_88 rfl ?_
    refine e_virt q_88 rfl rfl (Nat.le_of_ble_eq_true rfl) rfl rfl (Nat.le_of_ble_eq_true rfl) rfl ?_
    show Ev S (d + 2) 105 0 [some (.inr (some 0)), some (.inl (-100001))] [] σ _
    refine e_load q_105 rfl rfl rfl ?_
    refine e_dup q_105 rfl ?_
    refine e_getI q_105 rfl rfl rfl ?_
    refine e_push q_105 rfl ?_
    refine e_bin (r := (σ 0 5) + 1) q_105 rfl rfl ?_
    refine e_putI q_105 rfl rfl rfl ?_
    refine e_load q_105 rfl rfl rfl ?_
    refine e_ireturn q_105 rfl rfl ?_
    show Ev S (d + 3) 88 6 [some (.inr (some 0)), some (.inl x1), none, none, none, none] [.inl (-100001)] (up σ 0 5 ((σ 0 5) + 1)) _
    exact e_ireturn q_88 rfl rfl h
  · replace h := h.2 c
    refine e_load q_109 rfl rfl rfl ?_
    refine e_push q_109 rfl ?_
    refine e_icmp (P := x1 < 4) q_109 rfl m_c2 (fun c => ?_) (fun c => ?_)
    · replace h := h.1 c
      refine e_push q_109 rfl ?_
      refine e_zreturn q_109 rfl rfl (by decide) ?_
      show Ev S (d + 3) 88 2 [some (.inr (some 0)), some (.inl x1), none, none, none, none] [.inl 0] σ _
      refine e_if (P := (0 : Int32) = 0) q_88 rfl m_c0 (fun _ => ?_) (fun c => absurd (by decide) c)
      refine e_load q_88 rfl rfl rfl ?_
      refine e_getR q_88 rfl rfl rfl ?_
      refine e_load q_88 rfl rfl rfl ?_
      obtain ⟨j1, r2, r2n, hjj1, hlj1, hr2, h⟩ := h
      refine e_aald q_88 rfl rfl (by decide) hjj1 hlj1 (by have := (List.getElem?_eq_some_iff.mp hlj1).1; simp at this; omega) ?_
      refine e_store (ls' := [some (.inr (some 0)), some (.inl x1), some (.inr (some r2)), none, none, none]) q_88 rfl (Nat.le_of_ble_eq_true rfl) rfl rfl ?_
      refine e_load q_88 rfl rfl rfl ?_
      refine e_virt q_88 rfl rfl (Nat.le_of_ble_eq_true rfl) rfl rfl (Nat.le_of_ble_eq_true rfl) hr2.1 ?_
      show Ev S (d + 2) 67 0 [some (.inr (some r2))] [] σ _
      refine e_load q_67 rfl rfl rfl ?_
      refine e_getI q_67 rfl hr2.1 rfl ?_
      refine e_if (P := ¬ (σ r2 1) = 0) q_67 rfl m_c1 (fun c => ?_) (fun c => ?_)
      · replace h := h.1 c
        refine e_push q_67 rfl ?_
        refine e_zreturn q_67 rfl rfl (by decide) ?_
        show Ev S (d + 3) 88 14 [some (.inr (some 0)), some (.inl x1), some (.inr (some r2)), none, none, none] [.inl 0] σ _
        refine e_if (P := (0 : Int32) = 0) q_88 rfl m_c0 (fun _ => ?_) (fun c => absurd (by decide) c)
        refine e_load q_88 rfl rfl rfl ?_
        refine e_virt q_88 rfl rfl (Nat.le_of_ble_eq_true rfl) rfl rfl (Nat.le_of_ble_eq_true rfl) hr2.1 ?_
        show Ev S (d + 2) 69 0 [some (.inr (some r2))] [] σ _
        refine e_load q_69 rfl rfl rfl ?_
        refine e_getI q_69 rfl hr2.1 rfl ?_
        refine e_ireturn q_69 rfl rfl ?_
        show Ev S (d + 3) 88 21 [some (.inr (some 0)), some (.inl x1), some (.inr (some r2)), none, none, none] [.inl (σ r2 2)] σ _
        refine e_push q_88 rfl ?_
        refine e_min (r := (if 6 < σ r2 2 then 6 else σ r2 2)) q_88 rfl (Nat.le_of_ble_eq_true rfl) rfl ?_
        refine e_store (ls' := [some (.inr (some 0)), some (.inl x1), some (.inr (some r2)), some (.inl (if 6 < σ r2 2 then 6 else σ r2 2)), none, none]) q_88 rfl (Nat.le_of_ble_eq_true rfl) rfl rfl ?_
        refine e_push q_88 rfl ?_
        refine e_store (ls' := [some (.inr (some 0)), some (.inl x1), some (.inr (some r2)), some (.inl (if 6 < σ r2 2 then 6 else σ r2 2)), some (.inl 0), none]) q_88 rfl (Nat.le_of_ble_eq_true rfl) rfl rfl ?_
        exact h
      · replace h := h.2 c
        refine e_push q_67 rfl ?_
        refine e_goto q_67 rfl ?_
        refine e_zreturn q_67 rfl rfl (by decide) ?_
        show Ev S (d + 3) 88 14 [some (.inr (some 0)), some (.inl x1), some (.inr (some r2)), none, none, none] [.inl 1] σ _
        refine e_if (P := (1 : Int32) = 0) q_88 rfl m_c0 (fun c => absurd c (by decide)) (fun _ => ?_)
        refine e_load q_88 rfl rfl rfl ?_
        refine e_push q_88 rfl ?_
        refine e_virt q_88 rfl rfl (Nat.le_of_ble_eq_true rfl) rfl rfl (Nat.le_of_ble_eq_true rfl) rfl ?_
        show Ev S (d + 2) 105 0 [some (.inr (some 0)), some (.inl (-100002))] [] σ _
        refine e_load q_105 rfl rfl rfl ?_
        refine e_dup q_105 rfl ?_
        refine e_getI q_105 rfl rfl rfl ?_
        refine e_push q_105 rfl ?_
        refine e_bin (r := (σ 0 5) + 1) q_105 rfl rfl ?_
        refine e_putI q_105 rfl rfl rfl ?_
        refine e_load q_105 rfl rfl rfl ?_
        refine e_ireturn q_105 rfl rfl ?_
        show Ev S (d + 3) 88 18 [some (.inr (some 0)), some (.inl x1), some (.inr (some r2)), none, none, none] [.inl (-100002)] (up σ 0 5 ((σ 0 5) + 1)) _
        exact e_ireturn q_88 rfl rfl h
    · replace h := h.2 c
      refine e_push q_109 rfl ?_
      refine e_goto q_109 rfl ?_
      refine e_zreturn q_109 rfl rfl (by decide) ?_
      show Ev S (d + 3) 88 2 [some (.inr (some 0)), some (.inl x1), none, none, none, none] [.inl 1] σ _
      refine e_if (P := (1 : Int32) = 0) q_88 rfl m_c0 (fun c => absurd c (by decide)) (fun _ => ?_)
      refine e_load q_88 rfl rfl rfl ?_
      refine e_push q_88 rfl ?_
      refine e_virt q_88 rfl rfl (Nat.le_of_ble_eq_true rfl) rfl rfl (Nat.le_of_ble_eq_true rfl) rfl ?_
      show Ev S (d + 2) 105 0 [some (.inr (some 0)), some (.inl (-100001))] [] σ _
      refine e_load q_105 rfl rfl rfl ?_
      refine e_dup q_105 rfl ?_
      refine e_getI q_105 rfl rfl rfl ?_
      refine e_push q_105 rfl ?_
      refine e_bin (r := (σ 0 5) + 1) q_105 rfl rfl ?_
      refine e_putI q_105 rfl rfl rfl ?_
      refine e_load q_105 rfl rfl rfl ?_
      refine e_ireturn q_105 rfl rfl ?_
      show Ev S (d + 3) 88 6 [some (.inr (some 0)), some (.inl x1), none, none, none, none] [.inl (-100001)] (up σ 0 5 ((σ 0 5) + 1)) _
      exact e_ireturn q_88 rfl rfl h
theorem g_88_26 {S : Nat × (Nat → Int32)} {d : Nat} {σ : Mem} {Q : MQ1} {o1 : Option MV} {p2 p2n : Nat} {x3 : Int32} {x4 : Int32} {o5 : Option MV} (hp2 : isSt p2 p2n) (h : ((x3 ≤ x4 → Ec S (d + 2) 26 [.inr (some 24), .inr (some 1)] σ (fun rv σ' => Ev S (d + 3) 88 45 [some (.inr (some 0)), o1, some (.inr (some p2)), some (.inl x3), some (.inl x4), o5] (rv ++ []) σ' Q)) ∧ (¬ (x3 ≤ x4) → (∃ j1 : Nat, x4 = nI j1 ∧ j1 < 6 ∧ (((σ p2n j1) ≤ 40 → Ev S (d + 3) 88 26 [some (.inr (some 0)), o1, some (.inr (some p2)), some (.inl x3), some (.inl (x4 + 1)), o5] [] σ Q) ∧ (¬ ((σ p2n j1) ≤ 40) → Q [.inl (-100001)] (up σ 0 5 ((σ 0 5) + 1)))))))) : Ev S (d + 3) 88 26 [some (.inr (some 0)), o1, some (.inr (some p2)), some (.inl x3), some (.inl x4), o5] [] σ Q := by
  refine e_load q_88 rfl rfl rfl ?_
  refine e_load q_88 rfl rfl rfl ?_
  refine e_icmp (P := x3 ≤ x4) q_88 rfl m_c3 (fun c => ?_) (fun c => ?_)
  · replace h := h.1 c
    refine e_load q_88 rfl rfl rfl ?_
    refine e_getR q_88 rfl rfl rfl ?_
    refine e_load q_88 rfl rfl rfl ?_
    refine e_getR q_88 rfl rfl rfl ?_
    exact e_virt q_88 rfl rfl (Nat.le_of_ble_eq_true rfl) rfl rfl (Nat.le_of_ble_eq_true rfl) rfl h
  · replace h := h.2 c
    refine e_load q_88 rfl rfl rfl ?_
    refine e_load q_88 rfl rfl rfl ?_
    refine e_virt q_88 rfl rfl (Nat.le_of_ble_eq_true rfl) rfl rfl (Nat.le_of_ble_eq_true rfl) hp2.1 ?_
    show Ev S (d + 2) 71 0 [some (.inr (some p2)), some (.inl x4)] [] σ _
    refine e_load q_71 rfl rfl rfl ?_
    refine e_getR q_71 rfl hp2.1 rfl ?_
    refine e_load q_71 rfl rfl rfl ?_
    obtain ⟨j1, hjj1, hlj1, h⟩ := h
    refine e_iald q_71 rfl hp2.2 (by decide) hjj1 hlj1 ?_
    refine e_ireturn q_71 rfl rfl ?_
    show Ev S (d + 3) 88 32 [some (.inr (some 0)), o1, some (.inr (some p2)), some (.inl x3), some (.inl x4), o5] [.inl (σ p2n j1)] σ _
    refine e_push q_88 rfl ?_
    refine e_icmp (P := (σ p2n j1) ≤ 40) q_88 rfl m_c5 (fun c => ?_) (fun c => ?_)
    · replace h := h.1 c
      refine e_iinc (ls' := [some (.inr (some 0)), o1, some (.inr (some p2)), some (.inl x3), some (.inl (x4 + 1)), o5]) q_88 rfl rfl rfl ?_
      refine e_goto q_88 rfl ?_
      exact h
    · replace h := h.2 c
      refine e_load q_88 rfl rfl rfl ?_
      refine e_push q_88 rfl ?_
      refine e_virt q_88 rfl rfl (Nat.le_of_ble_eq_true rfl) rfl rfl (Nat.le_of_ble_eq_true rfl) rfl ?_
      show Ev S (d + 2) 105 0 [some (.inr (some 0)), some (.inl (-100001))] [] σ _
      refine e_load q_105 rfl rfl rfl ?_
      refine e_dup q_105 rfl ?_
      refine e_getI q_105 rfl rfl rfl ?_
      refine e_push q_105 rfl ?_
      refine e_bin (r := (σ 0 5) + 1) q_105 rfl rfl ?_
      refine e_putI q_105 rfl rfl rfl ?_
      refine e_load q_105 rfl rfl rfl ?_
      refine e_ireturn q_105 rfl rfl ?_
      show Ev S (d + 3) 88 37 [some (.inr (some 0)), o1, some (.inr (some p2)), some (.inl x3), some (.inl x4), o5] [.inl (-100001)] (up σ 0 5 ((σ 0 5) + 1)) _
      exact e_ireturn q_88 rfl rfl h
theorem g_88_45 {S : Nat × (Nat → Int32)} {d : Nat} {σ : Mem} {Q : MQ1} {o1 : Option MV} {p2 p2n : Nat} {x3 : Int32} {o4 : Option MV} {o5 : Option MV} (hp2 : isSt p2 p2n) (h : Ev S (d + 3) 88 47 [some (.inr (some 0)), o1, some (.inr (some p2)), some (.inl x3), some (.inl 0), o5] [] σ Q) : Ev S (d + 3) 88 45 [some (.inr (some 0)), o1, some (.inr (some p2)), some (.inl x3), o4, o5] [] σ Q := by
  refine e_push q_88 rfl ?_
  refine e_store (ls' := [some (.inr (some 0)), o1, some (.inr (some p2)), some (.inl x3), some (.inl 0), o5]) q_88 rfl (Nat.le_of_ble_eq_true rfl) rfl rfl ?_
  exact h
theorem g_88_47 {S : Nat × (Nat → Int32)} {d : Nat} {σ : Mem} {Q : MQ1} {o1 : Option MV} {p2 p2n : Nat} {x3 : Int32} {x4 : Int32} {o5 : Option MV} (hp2 : isSt p2 p2n) (h : ((x3 ≤ x4 → Q [.inl x3] σ) ∧ (¬ (x3 ≤ x4) → (∃ j1 : Nat, x4 = nI j1 ∧ j1 < 6 ∧ ((0 ≤ (σ p2n j1) → (((σ p2n j1) < 0 → Ev S (d + 3) 88 47 [some (.inr (some 0)), o1, some (.inr (some p2)), some (.inl x3), some (.inl (x4 + 1)), some (.inl (σ p2n j1))] [] (up σ 2 78 ((σ 2 78) &&& ((1 <<< (x4 &&& 31)) ^^^ (-1)))) Q) ∧ (¬ ((σ p2n j1) < 0) → (∃ j4 : Nat, 72 + x4 = nI j4 ∧ j4 < 81 ∧ Ev S (d + 3) 88 47 [some (.inr (some 0)), o1, some (.inr (some p2)), some (.inl x3), some (.inl (x4 + 1)), some (.inl (σ p2n j1))] [] (up (up σ 2 78 ((σ 2 78) &&& ((1 <<< (x4 &&& 31)) ^^^ (-1)))) 2 j4 (σ p2n j1)) Q)))) ∧ (¬ (0 ≤ (σ p2n j1)) → (((σ p2n j1) < 0 → Ev S (d + 3) 88 47 [some (.inr (some 0)), o1, some (.inr (some p2)), some (.inl x3), some (.inl (x4 + 1)), some (.inl (σ p2n j1))] [] (up σ 2 78 ((σ 2 78) ||| (1 <<< (x4 &&& 31)))) Q) ∧ (¬ ((σ p2n j1) < 0) → (∃ j7 : Nat, 72 + x4 = nI j7 ∧ j7 < 81 ∧ Ev S (d + 3) 88 47 [some (.inr (some 0)), o1, some (.inr (some p2)), some (.inl x3), some (.inl (x4 + 1)), some (.inl (σ p2n j1))] [] (up (up σ 2 78 ((σ 2 78) ||| (1 <<< (x4 &&& 31)))) 2 j7 (σ p2n j1)) Q))))))))) : Ev S (d + 3) 88 47 [some (.inr (some 0)), o1, some (.inr (some p2)), some (.inl x3), some (.inl x4), o5] [] σ Q := by
  refine e_load q_88 rfl rfl rfl ?_
  refine e_load q_88 rfl rfl rfl ?_
  refine e_icmp (P := x3 ≤ x4) q_88 rfl m_c3 (fun c => ?_) (fun c => ?_)
  · replace h := h.1 c
    refine e_load q_88 rfl rfl rfl ?_
    exact e_ireturn q_88 rfl rfl h
  · replace h := h.2 c
    refine e_load q_88 rfl rfl rfl ?_
    refine e_load q_88 rfl rfl rfl ?_
    refine e_virt q_88 rfl rfl (Nat.le_of_ble_eq_true rfl) rfl rfl (Nat.le_of_ble_eq_true rfl) hp2.1 ?_
    show Ev S (d + 2) 71 0 [some (.inr (some p2)), some (.inl x4)] [] σ _
    refine e_load q_71 rfl rfl rfl ?_
    refine e_getR q_71 rfl hp2.1 rfl ?_
    refine e_load q_71 rfl rfl rfl ?_
    obtain ⟨j1, hjj1, hlj1, h⟩ := h
    refine e_iald q_71 rfl hp2.2 (by decide) hjj1 hlj1 ?_
    refine e_ireturn q_71 rfl rfl ?_
    show Ev S (d + 3) 88 53 [some (.inr (some 0)), o1, some (.inr (some p2)), some (.inl x3), some (.inl x4), o5] [.inl (σ p2n j1)] σ _
    refine e_store (ls' := [some (.inr (some 0)), o1, some (.inr (some p2)), some (.inl x3), some (.inl x4), some (.inl (σ p2n j1))]) q_88 rfl (Nat.le_of_ble_eq_true rfl) rfl rfl ?_
    refine e_load q_88 rfl rfl rfl ?_
    refine e_getR q_88 rfl rfl rfl ?_
    refine e_load q_88 rfl rfl rfl ?_
    refine e_load q_88 rfl rfl rfl ?_
    refine e_if (P := 0 ≤ (σ p2n j1)) q_88 rfl m_c3 (fun c => ?_) (fun c => ?_)
    · replace h := h.1 c
      refine e_push q_88 rfl ?_
      refine e_virt q_88 rfl rfl (Nat.le_of_ble_eq_true rfl) rfl rfl (Nat.le_of_ble_eq_true rfl) rfl ?_
      show Ev S (d + 2) 19 0 [some (.inr (some 1)), some (.inl x4), some (.inl 0)] [] σ _
      refine e_load q_19 rfl rfl rfl ?_
      refine e_getR q_19 rfl rfl rfl ?_
      refine e_push q_19 rfl ?_
      refine e_load q_19 rfl rfl rfl ?_
      refine e_getR q_19 rfl rfl rfl ?_
      refine e_push q_19 rfl ?_
      refine e_iald (j := 78) q_19 rfl rfl (by decide) (by decide +kernel) (by decide) ?_
      refine e_load q_19 rfl rfl rfl ?_
      refine e_load q_19 rfl rfl rfl ?_
      refine e_stat q_19 rfl (Nat.le_of_ble_eq_true rfl) rfl rfl (Nat.le_of_ble_eq_true rfl) ?_
      show Ev S (d + 1) 111 0 [some (.inl (σ 2 78)), some (.inl x4), some (.inl 0)] [] σ _
      refine e_load q_111 rfl rfl rfl ?_
      refine e_if (P := (0 : Int32) = 0) q_111 rfl m_c0 (fun _ => ?_) (fun c => absurd (by decide) c)
      refine e_load q_111 rfl rfl rfl ?_
      refine e_push q_111 rfl ?_
      refine e_load q_111 rfl rfl rfl ?_
      refine e_bin (r := 1 <<< (x4 &&& 31)) q_111 rfl rfl ?_
      refine e_push q_111 rfl ?_
      refine e_bin (r := (1 <<< (x4 &&& 31)) ^^^ (-1)) q_111 rfl rfl ?_
      refine e_bin (r := (σ 2 78) &&& ((1 <<< (x4 &&& 31)) ^^^ (-1))) q_111 rfl rfl ?_
      refine e_ireturn q_111 rfl rfl ?_
      show Ev S (d + 2) 19 10 [some (.inr (some 1)), some (.inl x4), some (.inl 0)] [.inl ((σ 2 78) &&& ((1 <<< (x4 &&& 31)) ^^^ (-1))), .inl 78, .inr (some 2)] σ _
      refine e_iast (j := 78) q_19 rfl rfl (by decide) (by decide +kernel) (by decide) ?_
      refine e_return q_19 rfl rfl ?_
      show Ev S (d + 3) 88 63 [some (.inr (some 0)), o1, some (.inr (some p2)), some (.inl x3), some (.inl x4), some (.inl (σ p2n j1))] [] (up σ 2 78 ((σ 2 78) &&& ((1 <<< (x4 &&& 31)) ^^^ (-1)))) _
      refine e_load q_88 rfl rfl rfl ?_
      refine e_if (P := (σ p2n j1) < 0) q_88 rfl m_c2 (fun c => ?_) (fun c => ?_)
      · replace h := h.1 c
        refine e_iinc (ls' := [some (.inr (some 0)), o1, some (.inr (some p2)), some (.inl x3), some (.inl (x4 + 1)), some (.inl (σ p2n j1))]) q_88 rfl rfl rfl ?_
        refine e_goto q_88 rfl ?_
        exact h
      · replace h := h.2 c
        refine e_load q_88 rfl rfl rfl ?_
        refine e_getR q_88 rfl rfl rfl ?_
        refine e_load q_88 rfl rfl rfl ?_
        refine e_load q_88 rfl rfl rfl ?_
        refine e_virt q_88 rfl rfl (Nat.le_of_ble_eq_true rfl) rfl rfl (Nat.le_of_ble_eq_true rfl) rfl ?_
        show Ev S (d + 2) 17 0 [some (.inr (some 1)), some (.inl x4), some (.inl (σ p2n j1))] [] (up σ 2 78 ((σ 2 78) &&& ((1 <<< (x4 &&& 31)) ^^^ (-1)))) _
        refine e_load q_17 rfl rfl rfl ?_
        refine e_getR q_17 rfl rfl rfl ?_
        refine e_push q_17 rfl ?_
        refine e_load q_17 rfl rfl rfl ?_
        refine e_bin (r := 72 + x4) q_17 rfl rfl ?_
        refine e_load q_17 rfl rfl rfl ?_
        obtain ⟨j4, hjj4, hlj4, h⟩ := h
        refine e_iast q_17 rfl rfl (by decide) hjj4 hlj4 ?_
        refine e_return q_17 rfl rfl ?_
        show Ev S (d + 3) 88 70 [some (.inr (some 0)), o1, some (.inr (some p2)), some (.inl x3), some (.inl x4), some (.inl (σ p2n j1))] [] (up (up σ 2 78 ((σ 2 78) &&& ((1 <<< (x4 &&& 31)) ^^^ (-1)))) 2 j4 (σ p2n j1)) _
        refine e_iinc (ls' := [some (.inr (some 0)), o1, some (.inr (some p2)), some (.inl x3), some (.inl (x4 + 1)), some (.inl (σ p2n j1))]) q_88 rfl rfl rfl ?_
        refine e_goto q_88 rfl ?_
        exact h
    · replace h := h.2 c
      refine e_push q_88 rfl ?_
      refine e_goto q_88 rfl ?_
      refine e_virt q_88 rfl rfl (Nat.le_of_ble_eq_true rfl) rfl rfl (Nat.le_of_ble_eq_true rfl) rfl ?_
      show Ev S (d + 2) 19 0 [some (.inr (some 1)), some (.inl x4), some (.inl 1)] [] σ _
      refine e_load q_19 rfl rfl rfl ?_
      refine e_getR q_19 rfl rfl rfl ?_
      refine e_push q_19 rfl ?_
      refine e_load q_19 rfl rfl rfl ?_
      refine e_getR q_19 rfl rfl rfl ?_
      refine e_push q_19 rfl ?_
      refine e_iald (j := 78) q_19 rfl rfl (by decide) (by decide +kernel) (by decide) ?_
      refine e_load q_19 rfl rfl rfl ?_
      refine e_load q_19 rfl rfl rfl ?_
      refine e_stat q_19 rfl (Nat.le_of_ble_eq_true rfl) rfl rfl (Nat.le_of_ble_eq_true rfl) ?_
      show Ev S (d + 1) 111 0 [some (.inl (σ 2 78)), some (.inl x4), some (.inl 1)] [] σ _
      refine e_load q_111 rfl rfl rfl ?_
      refine e_if (P := (1 : Int32) = 0) q_111 rfl m_c0 (fun c => absurd c (by decide)) (fun _ => ?_)
      refine e_load q_111 rfl rfl rfl ?_
      refine e_push q_111 rfl ?_
      refine e_load q_111 rfl rfl rfl ?_
      refine e_bin (r := 1 <<< (x4 &&& 31)) q_111 rfl rfl ?_
      refine e_bin (r := (σ 2 78) ||| (1 <<< (x4 &&& 31))) q_111 rfl rfl ?_
      refine e_goto q_111 rfl ?_
      refine e_ireturn q_111 rfl rfl ?_
      show Ev S (d + 2) 19 10 [some (.inr (some 1)), some (.inl x4), some (.inl 1)] [.inl ((σ 2 78) ||| (1 <<< (x4 &&& 31))), .inl 78, .inr (some 2)] σ _
      refine e_iast (j := 78) q_19 rfl rfl (by decide) (by decide +kernel) (by decide) ?_
      refine e_return q_19 rfl rfl ?_
      show Ev S (d + 3) 88 63 [some (.inr (some 0)), o1, some (.inr (some p2)), some (.inl x3), some (.inl x4), some (.inl (σ p2n j1))] [] (up σ 2 78 ((σ 2 78) ||| (1 <<< (x4 &&& 31)))) _
      refine e_load q_88 rfl rfl rfl ?_
      refine e_if (P := (σ p2n j1) < 0) q_88 rfl m_c2 (fun c => ?_) (fun c => ?_)
      · replace h := h.1 c
        refine e_iinc (ls' := [some (.inr (some 0)), o1, some (.inr (some p2)), some (.inl x3), some (.inl (x4 + 1)), some (.inl (σ p2n j1))]) q_88 rfl rfl rfl ?_
        refine e_goto q_88 rfl ?_
        exact h
      · replace h := h.2 c
        refine e_load q_88 rfl rfl rfl ?_
        refine e_getR q_88 rfl rfl rfl ?_
        refine e_load q_88 rfl rfl rfl ?_
        refine e_load q_88 rfl rfl rfl ?_
        refine e_virt q_88 rfl rfl (Nat.le_of_ble_eq_true rfl) rfl rfl (Nat.le_of_ble_eq_true rfl) rfl ?_
        show Ev S (d + 2) 17 0 [some (.inr (some 1)), some (.inl x4), some (.inl (σ p2n j1))] [] (up σ 2 78 ((σ 2 78) ||| (1 <<< (x4 &&& 31)))) _
        refine e_load q_17 rfl rfl rfl ?_
        refine e_getR q_17 rfl rfl rfl ?_
        refine e_push q_17 rfl ?_
        refine e_load q_17 rfl rfl rfl ?_
        refine e_bin (r := 72 + x4) q_17 rfl rfl ?_
        refine e_load q_17 rfl rfl rfl ?_
        obtain ⟨j7, hjj7, hlj7, h⟩ := h
        refine e_iast q_17 rfl rfl (by decide) hjj7 hlj7 ?_
        refine e_return q_17 rfl rfl ?_
        show Ev S (d + 3) 88 70 [some (.inr (some 0)), o1, some (.inr (some p2)), some (.inl x3), some (.inl x4), some (.inl (σ p2n j1))] [] (up (up σ 2 78 ((σ 2 78) ||| (1 <<< (x4 &&& 31)))) 2 j7 (σ p2n j1)) _
        refine e_iinc (ls' := [some (.inr (some 0)), o1, some (.inr (some p2)), some (.inl x3), some (.inl (x4 + 1)), some (.inl (σ p2n j1))]) q_88 rfl rfl rfl ?_
        refine e_goto q_88 rfl ?_
        exact h
theorem g_89_0 {S : Nat × (Nat → Int32)} {d : Nat} {σ : Mem} {Q : MQ1} {x1 : Int32} {x2 : Int32}  (h : ((x1 < 0 → Q [.inl (-100001)] (up σ 0 5 ((σ 0 5) + 1))) ∧ (¬ (x1 < 0) → ((x1 < (σ 2 80) → ((x2 = (-1) → (∃ j2 : Nat, 0 + x1 = nI j2 ∧ j2 < 81 ∧ (((¬ (σ 2 j2) = 2) → Ec S (d + 3) 112 [.inr (some 0), .inl 5, .inl x1, .inl x2] σ (fun rv σ' => Ev S (d + 4) 113 28 [some (.inr (some 0)), some (.inl 5), some (.inl x1), some (.inl x2)] (rv ++ []) σ' (fun rv σ' => Ev S (d + 5) 89 5 [some (.inr (some 0)), some (.inl x1), some (.inl x2)] (rv ++ []) σ' Q))) ∧ (¬ (¬ (σ 2 j2) = 2) → Q [.inl (-100004)] (up σ 0 5 ((σ 0 5) + 1)))))) ∧ (¬ (x2 = (-1)) → ((x2 < 0 → Q [.inl (-100001)] (up σ 0 5 ((σ 0 5) + 1))) ∧ (¬ (x2 < 0) → ((x2 < 6 → (∃ j3 : Nat, 0 + x1 = nI j3 ∧ j3 < 81 ∧ (((¬ (σ 2 j3) = 2) → Ec S (d + 3) 112 [.inr (some 0), .inl 5, .inl x1, .inl x2] σ (fun rv σ' => Ev S (d + 4) 113 28 [some (.inr (some 0)), some (.inl 5), some (.inl x1), some (.inl x2)] (rv ++ []) σ' (fun rv σ' => Ev S (d + 5) 89 5 [some (.inr (some 0)), some (.inl x1), some (.inl x2)] (rv ++ []) σ' Q))) ∧ (¬ (¬ (σ 2 j3) = 2) → Q [.inl (-100004)] (up σ 0 5 ((σ 0 5) + 1)))))) ∧ (¬ (x2 < 6) → Q [.inl (-100001)] (up σ 0 5 ((σ 0 5) + 1))))))))) ∧ (¬ (x1 < (σ 2 80)) → Q [.inl (-100001)] (up σ 0 5 ((σ 0 5) + 1))))))) : Ev S (d + 5) 89 0 [some (.inr (some 0)), some (.inl x1), some (.inl x2)] [] σ Q := by
  refine e_load q_89 rfl rfl rfl ?_
  refine e_push q_89 rfl ?_
  refine e_load q_89 rfl rfl rfl ?_
  refine e_load q_89 rfl rfl rfl ?_
  refine e_virt q_89 rfl rfl (Nat.le_of_ble_eq_true rfl) rfl rfl (Nat.le_of_ble_eq_true rfl) rfl ?_
  show Ev S (d + 4) 113 0 [some (.inr (some 0)), some (.inl 5), some (.inl x1), some (.inl x2)] [] σ _
  refine e_load q_113 rfl rfl rfl ?_
  refine e_load q_113 rfl rfl rfl ?_
  refine e_virt q_113 rfl rfl (Nat.le_of_ble_eq_true rfl) rfl rfl (Nat.le_of_ble_eq_true rfl) rfl ?_
  show Ev S (d + 3) 106 0 [some (.inr (some 0)), some (.inl x1)] [] σ _
  refine e_load q_106 rfl rfl rfl ?_
  refine e_if (P := x1 < 0) q_106 rfl m_c2 (fun c => ?_) (fun c => ?_)
  · replace h := h.1 c
    refine e_push q_106 rfl ?_
    refine e_goto q_106 rfl ?_
    refine e_zreturn q_106 rfl rfl (by decide) ?_
    show Ev S (d + 4) 113 3 [some (.inr (some 0)), some (.inl 5), some (.inl x1), some (.inl x2)] [.inl 1] σ _
    refine e_if (P := ¬ (1 : Int32) = 0) q_113 rfl m_c1 (fun _ => ?_) (fun c => absurd (by decide) c)
    refine e_load q_113 rfl rfl rfl ?_
    refine e_push q_113 rfl ?_
    refine e_virt q_113 rfl rfl (Nat.le_of_ble_eq_true rfl) rfl rfl (Nat.le_of_ble_eq_true rfl) rfl ?_
    show Ev S (d + 3) 105 0 [some (.inr (some 0)), some (.inl (-100001))] [] σ _
    refine e_load q_105 rfl rfl rfl ?_
    refine e_dup q_105 rfl ?_
    refine e_getI q_105 rfl rfl rfl ?_
    refine e_push q_105 rfl ?_
    refine e_bin (r := (σ 0 5) + 1) q_105 rfl rfl ?_
    refine e_putI q_105 rfl rfl rfl ?_
    refine e_load q_105 rfl rfl rfl ?_
    refine e_ireturn q_105 rfl rfl ?_
    show Ev S (d + 4) 113 13 [some (.inr (some 0)), some (.inl 5), some (.inl x1), some (.inl x2)] [.inl (-100001)] (up σ 0 5 ((σ 0 5) + 1)) _
    refine e_ireturn q_113 rfl rfl ?_
    show Ev S (d + 5) 89 5 [some (.inr (some 0)), some (.inl x1), some (.inl x2)] [.inl (-100001)] (up σ 0 5 ((σ 0 5) + 1)) _
    exact e_ireturn q_89 rfl rfl h
  · replace h := h.2 c
    refine e_load q_106 rfl rfl rfl ?_
    refine e_load q_106 rfl rfl rfl ?_
    refine e_getR q_106 rfl rfl rfl ?_
    refine e_virt q_106 rfl rfl (Nat.le_of_ble_eq_true rfl) rfl rfl (Nat.le_of_ble_eq_true rfl) rfl ?_
    show Ev S (d + 2) 7 0 [some (.inr (some 1))] [] σ _
    refine e_load q_7 rfl rfl rfl ?_
    refine e_getR q_7 rfl rfl rfl ?_
    refine e_push q_7 rfl ?_
    refine e_iald (j := 80) q_7 rfl rfl (by decide) (by decide +kernel) (by decide) ?_
    refine e_ireturn q_7 rfl rfl ?_
    show Ev S (d + 3) 106 6 [some (.inr (some 0)), some (.inl x1)] [.inl (σ 2 80), .inl x1] σ _
    refine e_icmp (P := x1 < (σ 2 80)) q_106 rfl m_c2 (fun c => ?_) (fun c => ?_)
    · replace h := h.1 c
      refine e_push q_106 rfl ?_
      refine e_zreturn q_106 rfl rfl (by decide) ?_
      show Ev S (d + 4) 113 3 [some (.inr (some 0)), some (.inl 5), some (.inl x1), some (.inl x2)] [.inl 0] σ _
      refine e_if (P := ¬ (0 : Int32) = 0) q_113 rfl m_c1 (fun c => absurd c (by decide)) (fun _ => ?_)
      refine e_load q_113 rfl rfl rfl ?_
      refine e_push q_113 rfl ?_
      refine e_icmp (P := x2 = (-1)) q_113 rfl m_c0 (fun c => ?_) (fun c => ?_)
      · replace h := h.1 c
        refine e_load q_113 rfl rfl rfl ?_
        refine e_getR q_113 rfl rfl rfl ?_
        refine e_load q_113 rfl rfl rfl ?_
        refine e_virt q_113 rfl rfl (Nat.le_of_ble_eq_true rfl) rfl rfl (Nat.le_of_ble_eq_true rfl) rfl ?_
        show Ev S (d + 3) 12 0 [some (.inr (some 1)), some (.inl x1)] [] σ _
        refine e_load q_12 rfl rfl rfl ?_
        refine e_getR q_12 rfl rfl rfl ?_
        refine e_push q_12 rfl ?_
        refine e_load q_12 rfl rfl rfl ?_
        refine e_bin (r := 0 + x1) q_12 rfl rfl ?_
        obtain ⟨j2, hjj2, hlj2, h⟩ := h
        refine e_iald q_12 rfl rfl (by decide) hjj2 hlj2 ?_
        refine e_push q_12 rfl ?_
        refine e_icmp (P := ¬ (σ 2 j2) = 2) q_12 rfl m_c1 (fun c => ?_) (fun c => ?_)
        · replace h := h.1 c
          refine e_push q_12 rfl ?_
          refine e_zreturn q_12 rfl rfl (by decide) ?_
          show Ev S (d + 4) 113 18 [some (.inr (some 0)), some (.inl 5), some (.inl x1), some (.inl x2)] [.inl 0] σ _
          refine e_if (P := (0 : Int32) = 0) q_113 rfl m_c0 (fun _ => ?_) (fun c => absurd (by decide) c)
          refine e_load q_113 rfl rfl rfl ?_
          refine e_load q_113 rfl rfl rfl ?_
          refine e_load q_113 rfl rfl rfl ?_
          refine e_load q_113 rfl rfl rfl ?_
          exact e_virt q_113 rfl rfl (Nat.le_of_ble_eq_true rfl) rfl rfl (Nat.le_of_ble_eq_true rfl) rfl h
        · replace h := h.2 c
          refine e_push q_12 rfl ?_
          refine e_goto q_12 rfl ?_
          refine e_zreturn q_12 rfl rfl (by decide) ?_
          show Ev S (d + 4) 113 18 [some (.inr (some 0)), some (.inl 5), some (.inl x1), some (.inl x2)] [.inl 1] σ _
          refine e_if (P := (1 : Int32) = 0) q_113 rfl m_c0 (fun c => absurd c (by decide)) (fun _ => ?_)
          refine e_load q_113 rfl rfl rfl ?_
          refine e_push q_113 rfl ?_
          refine e_virt q_113 rfl rfl (Nat.le_of_ble_eq_true rfl) rfl rfl (Nat.le_of_ble_eq_true rfl) rfl ?_
          show Ev S (d + 3) 105 0 [some (.inr (some 0)), some (.inl (-100004))] [] σ _
          refine e_load q_105 rfl rfl rfl ?_
          refine e_dup q_105 rfl ?_
          refine e_getI q_105 rfl rfl rfl ?_
          refine e_push q_105 rfl ?_
          refine e_bin (r := (σ 0 5) + 1) q_105 rfl rfl ?_
          refine e_putI q_105 rfl rfl rfl ?_
          refine e_load q_105 rfl rfl rfl ?_
          refine e_ireturn q_105 rfl rfl ?_
          show Ev S (d + 4) 113 22 [some (.inr (some 0)), some (.inl 5), some (.inl x1), some (.inl x2)] [.inl (-100004)] (up σ 0 5 ((σ 0 5) + 1)) _
          refine e_ireturn q_113 rfl rfl ?_
          show Ev S (d + 5) 89 5 [some (.inr (some 0)), some (.inl x1), some (.inl x2)] [.inl (-100004)] (up σ 0 5 ((σ 0 5) + 1)) _
          exact e_ireturn q_89 rfl rfl h
      · replace h := h.2 c
        refine e_load q_113 rfl rfl rfl ?_
        refine e_stat q_113 rfl (Nat.le_of_ble_eq_true rfl) rfl rfl (Nat.le_of_ble_eq_true rfl) ?_
        show Ev S (d + 3) 108 0 [some (.inl x2)] [] σ _
        refine e_load q_108 rfl rfl rfl ?_
        refine e_if (P := x2 < 0) q_108 rfl m_c2 (fun c => ?_) (fun c => ?_)
        · replace h := h.1 c
          refine e_push q_108 rfl ?_
          refine e_goto q_108 rfl ?_
          refine e_zreturn q_108 rfl rfl (by decide) ?_
          show Ev S (d + 4) 113 9 [some (.inr (some 0)), some (.inl 5), some (.inl x1), some (.inl x2)] [.inl 1] σ _
          refine e_if (P := (1 : Int32) = 0) q_113 rfl m_c0 (fun c => absurd c (by decide)) (fun _ => ?_)
          refine e_load q_113 rfl rfl rfl ?_
          refine e_push q_113 rfl ?_
          refine e_virt q_113 rfl rfl (Nat.le_of_ble_eq_true rfl) rfl rfl (Nat.le_of_ble_eq_true rfl) rfl ?_
          show Ev S (d + 3) 105 0 [some (.inr (some 0)), some (.inl (-100001))] [] σ _
          refine e_load q_105 rfl rfl rfl ?_
          refine e_dup q_105 rfl ?_
          refine e_getI q_105 rfl rfl rfl ?_
          refine e_push q_105 rfl ?_
          refine e_bin (r := (σ 0 5) + 1) q_105 rfl rfl ?_
          refine e_putI q_105 rfl rfl rfl ?_
          refine e_load q_105 rfl rfl rfl ?_
          refine e_ireturn q_105 rfl rfl ?_
          show Ev S (d + 4) 113 13 [some (.inr (some 0)), some (.inl 5), some (.inl x1), some (.inl x2)] [.inl (-100001)] (up σ 0 5 ((σ 0 5) + 1)) _
          refine e_ireturn q_113 rfl rfl ?_
          show Ev S (d + 5) 89 5 [some (.inr (some 0)), some (.inl x1), some (.inl x2)] [.inl (-100001)] (up σ 0 5 ((σ 0 5) + 1)) _
          exact e_ireturn q_89 rfl rfl h
        · replace h := h.2 c
          refine e_load q_108 rfl rfl rfl ?_
          refine e_push q_108 rfl ?_
          refine e_icmp (P := x2 < 6) q_108 rfl m_c2 (fun c => ?_) (fun c => ?_)
          · replace h := h.1 c
            refine e_push q_108 rfl ?_
            refine e_zreturn q_108 rfl rfl (by decide) ?_
            show Ev S (d + 4) 113 9 [some (.inr (some 0)), some (.inl 5), some (.inl x1), some (.inl x2)] [.inl 0] σ _
            refine e_if (P := (0 : Int32) = 0) q_113 rfl m_c0 (fun _ => ?_) (fun c => absurd (by decide) c)
            refine e_load q_113 rfl rfl rfl ?_
            refine e_getR q_113 rfl rfl rfl ?_
            refine e_load q_113 rfl rfl rfl ?_
            refine e_virt q_113 rfl rfl (Nat.le_of_ble_eq_true rfl) rfl rfl (Nat.le_of_ble_eq_true rfl) rfl ?_
            show Ev S (d + 3) 12 0 [some (.inr (some 1)), some (.inl x1)] [] σ _
            refine e_load q_12 rfl rfl rfl ?_
            refine e_getR q_12 rfl rfl rfl ?_
            refine e_push q_12 rfl ?_
            refine e_load q_12 rfl rfl rfl ?_
            refine e_bin (r := 0 + x1) q_12 rfl rfl ?_
            obtain ⟨j3, hjj3, hlj3, h⟩ := h
            refine e_iald q_12 rfl rfl (by decide) hjj3 hlj3 ?_
            refine e_push q_12 rfl ?_
            refine e_icmp (P := ¬ (σ 2 j3) = 2) q_12 rfl m_c1 (fun c => ?_) (fun c => ?_)
            · replace h := h.1 c
              refine e_push q_12 rfl ?_
              refine e_zreturn q_12 rfl rfl (by decide) ?_
              show Ev S (d + 4) 113 18 [some (.inr (some 0)), some (.inl 5), some (.inl x1), some (.inl x2)] [.inl 0] σ _
              refine e_if (P := (0 : Int32) = 0) q_113 rfl m_c0 (fun _ => ?_) (fun c => absurd (by decide) c)
              refine e_load q_113 rfl rfl rfl ?_
              refine e_load q_113 rfl rfl rfl ?_
              refine e_load q_113 rfl rfl rfl ?_
              refine e_load q_113 rfl rfl rfl ?_
              exact e_virt q_113 rfl rfl (Nat.le_of_ble_eq_true rfl) rfl rfl (Nat.le_of_ble_eq_true rfl) rfl h
            · replace h := h.2 c
              refine e_push q_12 rfl ?_
              refine e_goto q_12 rfl ?_
              refine e_zreturn q_12 rfl rfl (by decide) ?_
              show Ev S (d + 4) 113 18 [some (.inr (some 0)), some (.inl 5), some (.inl x1), some (.inl x2)] [.inl 1] σ _
              refine e_if (P := (1 : Int32) = 0) q_113 rfl m_c0 (fun c => absurd c (by decide)) (fun _ => ?_)
              refine e_load q_113 rfl rfl rfl ?_
              refine e_push q_113 rfl ?_
              refine e_virt q_113 rfl rfl (Nat.le_of_ble_eq_true rfl) rfl rfl (Nat.le_of_ble_eq_true rfl) rfl ?_
              show Ev S (d + 3) 105 0 [some (.inr (some 0)), some (.inl (-100004))] [] σ _
              refine e_load q_105 rfl rfl rfl ?_
              refine e_dup q_105 rfl ?_
              refine e_getI q_105 rfl rfl rfl ?_
              refine e_push q_105 rfl ?_
              refine e_bin (r := (σ 0 5) + 1) q_105 rfl rfl ?_
              refine e_putI q_105 rfl rfl rfl ?_
              refine e_load q_105 rfl rfl rfl ?_
              refine e_ireturn q_105 rfl rfl ?_
              show Ev S (d + 4) 113 22 [some (.inr (some 0)), some (.inl 5), some (.inl x1), some (.inl x2)] [.inl (-100004)] (up σ 0 5 ((σ 0 5) + 1)) _
              refine e_ireturn q_113 rfl rfl ?_
              show Ev S (d + 5) 89 5 [some (.inr (some 0)), some (.inl x1), some (.inl x2)] [.inl (-100004)] (up σ 0 5 ((σ 0 5) + 1)) _
              exact e_ireturn q_89 rfl rfl h
          · replace h := h.2 c
            refine e_push q_108 rfl ?_
            refine e_goto q_108 rfl ?_
            refine e_zreturn q_108 rfl rfl (by decide) ?_
            show Ev S (d + 4) 113 9 [some (.inr (some 0)), some (.inl 5), some (.inl x1), some (.inl x2)] [.inl 1] σ _
            refine e_if (P := (1 : Int32) = 0) q_113 rfl m_c0 (fun c => absurd c (by decide)) (fun _ => ?_)
            refine e_load q_113 rfl rfl rfl ?_
            refine e_push q_113 rfl ?_
            refine e_virt q_113 rfl rfl (Nat.le_of_ble_eq_true rfl) rfl rfl (Nat.le_of_ble_eq_true rfl) rfl ?_
            show Ev S (d + 3) 105 0 [some (.inr (some 0)), some (.inl (-100001))] [] σ _
            refine e_load q_105 rfl rfl rfl ?_
            refine e_dup q_105 rfl ?_
            refine e_getI q_105 rfl rfl rfl ?_
            refine e_push q_105 rfl ?_
            refine e_bin (r := (σ 0 5) + 1) q_105 rfl rfl ?_
            refine e_putI q_105 rfl rfl rfl ?_
            refine e_load q_105 rfl rfl rfl ?_
            refine e_ireturn q_105 rfl rfl ?_
            show Ev S (d + 4) 113 13 [some (.inr (some 0)), some (.inl 5), some (.inl x1), some (.inl x2)] [.inl (-100001)] (up σ 0 5 ((σ 0 5) + 1)) _
            refine e_ireturn q_113 rfl rfl ?_
            show Ev S (d + 5) 89 5 [some (.inr (some 0)), some (.inl x1), some (.inl x2)] [.inl (-100001)] (up σ 0 5 ((σ 0 5) + 1)) _
            exact e_ireturn q_89 rfl rfl h
    · replace h := h.2 c
      refine e_push q_106 rfl ?_
      refine e_goto q_106 rfl ?_
      refine e_zreturn q_106 rfl rfl (by decide) ?_
      show Ev S (d + 4) 113 3 [some (.inr (some 0)), some (.inl 5), some (.inl x1), some (.inl x2)] [.inl 1] σ _
      refine e_if (P := ¬ (1 : Int32) = 0) q_113 rfl m_c1 (fun _ => ?_) (fun c => absurd (by decide) c)
      refine e_load q_113 rfl rfl rfl ?_
      refine e_push q_113 rfl ?_
      refine e_virt q_113 rfl rfl (Nat.le_of_ble_eq_true rfl) rfl rfl (Nat.le_of_ble_eq_true rfl) rfl ?_
      show Ev S (d + 3) 105 0 [some (.inr (some 0)), some (.inl (-100001))] [] σ _
      refine e_load q_105 rfl rfl rfl ?_
      refine e_dup q_105 rfl ?_
      refine e_getI q_105 rfl rfl rfl ?_
      refine e_push q_105 rfl ?_
      refine e_bin (r := (σ 0 5) + 1) q_105 rfl rfl ?_
      refine e_putI q_105 rfl rfl rfl ?_
      refine e_load q_105 rfl rfl rfl ?_
      refine e_ireturn q_105 rfl rfl ?_
      show Ev S (d + 4) 113 13 [some (.inr (some 0)), some (.inl 5), some (.inl x1), some (.inl x2)] [.inl (-100001)] (up σ 0 5 ((σ 0 5) + 1)) _
      refine e_ireturn q_113 rfl rfl ?_
      show Ev S (d + 5) 89 5 [some (.inr (some 0)), some (.inl x1), some (.inl x2)] [.inl (-100001)] (up σ 0 5 ((σ 0 5) + 1)) _
      exact e_ireturn q_89 rfl rfl h
theorem g_89_5 {S : Nat × (Nat → Int32)} {d : Nat} {σ : Mem} {Q : MQ1} {o0 : Option MV} {o1 : Option MV} {o2 : Option MV} {y0 : Int32}  (h : Q [.inl y0] σ) : Ev S (d + 5) 89 5 [o0, o1, o2] [.inl y0] σ Q := by
  exact e_ireturn q_89 rfl rfl h
theorem g_90_0 {S : Nat × (Nat → Int32)} {d : Nat} {σ : Mem} {Q : MQ1} {x1 : Int32} {x2 : Int32}  (h : ((x1 < 0 → Q [.inl (-100001)] (up σ 0 5 ((σ 0 5) + 1))) ∧ (¬ (x1 < 0) → ((x1 < (σ 2 80) → ((x2 = (-1) → (∃ j2 : Nat, 0 + x1 = nI j2 ∧ j2 < 81 ∧ (((¬ (σ 2 j2) = 2) → Ec S (d + 3) 112 [.inr (some 0), .inl 6, .inl x1, .inl x2] σ (fun rv σ' => Ev S (d + 4) 113 28 [some (.inr (some 0)), some (.inl 6), some (.inl x1), some (.inl x2)] (rv ++ []) σ' (fun rv σ' => Ev S (d + 5) 90 5 [some (.inr (some 0)), some (.inl x1), some (.inl x2)] (rv ++ []) σ' Q))) ∧ (¬ (¬ (σ 2 j2) = 2) → Q [.inl (-100004)] (up σ 0 5 ((σ 0 5) + 1)))))) ∧ (¬ (x2 = (-1)) → ((x2 < 0 → Q [.inl (-100001)] (up σ 0 5 ((σ 0 5) + 1))) ∧ (¬ (x2 < 0) → ((x2 < 6 → (∃ j3 : Nat, 0 + x1 = nI j3 ∧ j3 < 81 ∧ (((¬ (σ 2 j3) = 2) → Ec S (d + 3) 112 [.inr (some 0), .inl 6, .inl x1, .inl x2] σ (fun rv σ' => Ev S (d + 4) 113 28 [some (.inr (some 0)), some (.inl 6), some (.inl x1), some (.inl x2)] (rv ++ []) σ' (fun rv σ' => Ev S (d + 5) 90 5 [some (.inr (some 0)), some (.inl x1), some (.inl x2)] (rv ++ []) σ' Q))) ∧ (¬ (¬ (σ 2 j3) = 2) → Q [.inl (-100004)] (up σ 0 5 ((σ 0 5) + 1)))))) ∧ (¬ (x2 < 6) → Q [.inl (-100001)] (up σ 0 5 ((σ 0 5) + 1))))))))) ∧ (¬ (x1 < (σ 2 80)) → Q [.inl (-100001)] (up σ 0 5 ((σ 0 5) + 1))))))) : Ev S (d + 5) 90 0 [some (.inr (some 0)), some (.inl x1), some (.inl x2)] [] σ Q := by
  refine e_load q_90 rfl rfl rfl ?_
  refine e_push q_90 rfl ?_
  refine e_load q_90 rfl rfl rfl ?_
  refine e_load q_90 rfl rfl rfl ?_
  refine e_virt q_90 rfl rfl (Nat.le_of_ble_eq_true rfl) rfl rfl (Nat.le_of_ble_eq_true rfl) rfl ?_
  show Ev S (d + 4) 113 0 [some (.inr (some 0)), some (.inl 6), some (.inl x1), some (.inl x2)] [] σ _
  refine e_load q_113 rfl rfl rfl ?_
  refine e_load q_113 rfl rfl rfl ?_
  refine e_virt q_113 rfl rfl (Nat.le_of_ble_eq_true rfl) rfl rfl (Nat.le_of_ble_eq_true rfl) rfl ?_
  show Ev S (d + 3) 106 0 [some (.inr (some 0)), some (.inl x1)] [] σ _
  refine e_load q_106 rfl rfl rfl ?_
  refine e_if (P := x1 < 0) q_106 rfl m_c2 (fun c => ?_) (fun c => ?_)
  · replace h := h.1 c
    refine e_push q_106 rfl ?_
    refine e_goto q_106 rfl ?_
    refine e_zreturn q_106 rfl rfl (by decide) ?_
    show Ev S (d + 4) 113 3 [some (.inr (some 0)), some (.inl 6), some (.inl x1), some (.inl x2)] [.inl 1] σ _
    refine e_if (P := ¬ (1 : Int32) = 0) q_113 rfl m_c1 (fun _ => ?_) (fun c => absurd (by decide) c)
    refine e_load q_113 rfl rfl rfl ?_
    refine e_push q_113 rfl ?_
    refine e_virt q_113 rfl rfl (Nat.le_of_ble_eq_true rfl) rfl rfl (Nat.le_of_ble_eq_true rfl) rfl ?_
    show Ev S (d + 3) 105 0 [some (.inr (some 0)), some (.inl (-100001))] [] σ _
    refine e_load q_105 rfl rfl rfl ?_
    refine e_dup q_105 rfl ?_
    refine e_getI q_105 rfl rfl rfl ?_
    refine e_push q_105 rfl ?_
    refine e_bin (r := (σ 0 5) + 1) q_105 rfl rfl ?_
    refine e_putI q_105 rfl rfl rfl ?_
    refine e_load q_105 rfl rfl rfl ?_
    refine e_ireturn q_105 rfl rfl ?_
    show Ev S (d + 4) 113 13 [some (.inr (some 0)), some (.inl 6), some (.inl x1), some (.inl x2)] [.inl (-100001)] (up σ 0 5 ((σ 0 5) + 1)) _
    refine e_ireturn q_113 rfl rfl ?_
    show Ev S (d + 5) 90 5 [some (.inr (some 0)), some (.inl x1), some (.inl x2)] [.inl (-100001)] (up σ 0 5 ((σ 0 5) + 1)) _
    exact e_ireturn q_90 rfl rfl h
  · replace h := h.2 c
    refine e_load q_106 rfl rfl rfl ?_
    refine e_load q_106 rfl rfl rfl ?_
    refine e_getR q_106 rfl rfl rfl ?_
    refine e_virt q_106 rfl rfl (Nat.le_of_ble_eq_true rfl) rfl rfl (Nat.le_of_ble_eq_true rfl) rfl ?_
    show Ev S (d + 2) 7 0 [some (.inr (some 1))] [] σ _
    refine e_load q_7 rfl rfl rfl ?_
    refine e_getR q_7 rfl rfl rfl ?_
    refine e_push q_7 rfl ?_
    refine e_iald (j := 80) q_7 rfl rfl (by decide) (by decide +kernel) (by decide) ?_
    refine e_ireturn q_7 rfl rfl ?_
    show Ev S (d + 3) 106 6 [some (.inr (some 0)), some (.inl x1)] [.inl (σ 2 80), .inl x1] σ _
    refine e_icmp (P := x1 < (σ 2 80)) q_106 rfl m_c2 (fun c => ?_) (fun c => ?_)
    · replace h := h.1 c
      refine e_push q_106 rfl ?_
      refine e_zreturn q_106 rfl rfl (by decide) ?_
      show Ev S (d + 4) 113 3 [some (.inr (some 0)), some (.inl 6), some (.inl x1), some (.inl x2)] [.inl 0] σ _
      refine e_if (P := ¬ (0 : Int32) = 0) q_113 rfl m_c1 (fun c => absurd c (by decide)) (fun _ => ?_)
      refine e_load q_113 rfl rfl rfl ?_
      refine e_push q_113 rfl ?_
      refine e_icmp (P := x2 = (-1)) q_113 rfl m_c0 (fun c => ?_) (fun c => ?_)
      · replace h := h.1 c
        refine e_load q_113 rfl rfl rfl ?_
        refine e_getR q_113 rfl rfl rfl ?_
        refine e_load q_113 rfl rfl rfl ?_
        refine e_virt q_113 rfl rfl (Nat.le_of_ble_eq_true rfl) rfl rfl (Nat.le_of_ble_eq_true rfl) rfl ?_
        show Ev S (d + 3) 12 0 [some (.inr (some 1)), some (.inl x1)] [] σ _
        refine e_load q_12 rfl rfl rfl ?_
        refine e_getR q_12 rfl rfl rfl ?_
        refine e_push q_12 rfl ?_
        refine e_load q_12 rfl rfl rfl ?_
        refine e_bin (r := 0 + x1) q_12 rfl rfl ?_
        obtain ⟨j2, hjj2, hlj2, h⟩ := h
        refine e_iald q_12 rfl rfl (by decide) hjj2 hlj2 ?_
        refine e_push q_12 rfl ?_
        refine e_icmp (P := ¬ (σ 2 j2) = 2) q_12 rfl m_c1 (fun c => ?_) (fun c => ?_)
        · replace h := h.1 c
          refine e_push q_12 rfl ?_
          refine e_zreturn q_12 rfl rfl (by decide) ?_
          show Ev S (d + 4) 113 18 [some (.inr (some 0)), some (.inl 6), some (.inl x1), some (.inl x2)] [.inl 0] σ _
          refine e_if (P := (0 : Int32) = 0) q_113 rfl m_c0 (fun _ => ?_) (fun c => absurd (by decide) c)
          refine e_load q_113 rfl rfl rfl ?_
          refine e_load q_113 rfl rfl rfl ?_
          refine e_load q_113 rfl rfl rfl ?_
          refine e_load q_113 rfl rfl rfl ?_
          exact e_virt q_113 rfl rfl (Nat.le_of_ble_eq_true rfl) rfl rfl (Nat.le_of_ble_eq_true rfl) rfl h
        · replace h := h.2 c
          refine e_push q_12 rfl ?_
          refine e_goto q_12 rfl ?_
          refine e_zreturn q_12 rfl rfl (by decide) ?_
          show Ev S (d + 4) 113 18 [some (.inr (some 0)), some (.inl 6), some (.inl x1), some (.inl x2)] [.inl 1] σ _
          refine e_if (P := (1 : Int32) = 0) q_113 rfl m_c0 (fun c => absurd c (by decide)) (fun _ => ?_)
          refine e_load q_113 rfl rfl rfl ?_
          refine e_push q_113 rfl ?_
          refine e_virt q_113 rfl rfl (Nat.le_of_ble_eq_true rfl) rfl rfl (Nat.le_of_ble_eq_true rfl) rfl ?_
          show Ev S (d + 3) 105 0 [some (.inr (some 0)), some (.inl (-100004))] [] σ _
          refine e_load q_105 rfl rfl rfl ?_
          refine e_dup q_105 rfl ?_
          refine e_getI q_105 rfl rfl rfl ?_
          refine e_push q_105 rfl ?_
          refine e_bin (r := (σ 0 5) + 1) q_105 rfl rfl ?_
          refine e_putI q_105 rfl rfl rfl ?_
          refine e_load q_105 rfl rfl rfl ?_
          refine e_ireturn q_105 rfl rfl ?_
          show Ev S (d + 4) 113 22 [some (.inr (some 0)), some (.inl 6), some (.inl x1), some (.inl x2)] [.inl (-100004)] (up σ 0 5 ((σ 0 5) + 1)) _
          refine e_ireturn q_113 rfl rfl ?_
          show Ev S (d + 5) 90 5 [some (.inr (some 0)), some (.inl x1), some (.inl x2)] [.inl (-100004)] (up σ 0 5 ((σ 0 5) + 1)) _
          exact e_ireturn q_90 rfl rfl h
      · replace h := h.2 c
        refine e_load q_113 rfl rfl rfl ?_
        refine e_stat q_113 rfl (Nat.le_of_ble_eq_true rfl) rfl rfl (Nat.le_of_ble_eq_true rfl) ?_
        show Ev S (d + 3) 108 0 [some (.inl x2)] [] σ _
        refine e_load q_108 rfl rfl rfl ?_
        refine e_if (P := x2 < 0) q_108 rfl m_c2 (fun c => ?_) (fun c => ?_)
        · replace h := h.1 c
          refine e_push q_108 rfl ?_
          refine e_goto q_108 rfl ?_
          refine e_zreturn q_108 rfl rfl (by decide) ?_
          show Ev S (d + 4) 113 9 [some (.inr (some 0)), some (.inl 6), some (.inl x1), some (.inl x2)] [.inl 1] σ _
          refine e_if (P := (1 : Int32) = 0) q_113 rfl m_c0 (fun c => absurd c (by decide)) (fun _ => ?_)
          refine e_load q_113 rfl rfl rfl ?_
          refine e_push q_113 rfl ?_
          refine e_virt q_113 rfl rfl (Nat.le_of_ble_eq_true rfl) rfl rfl (Nat.le_of_ble_eq_true rfl) rfl ?_
          show Ev S (d + 3) 105 0 [some (.inr (some 0)), some (.inl (-100001))] [] σ _
          refine e_load q_105 rfl rfl rfl ?_
          refine e_dup q_105 rfl ?_
          refine e_getI q_105 rfl rfl rfl ?_
          refine e_push q_105 rfl ?_
          refine e_bin (r := (σ 0 5) + 1) q_105 rfl rfl ?_
          refine e_putI q_105 rfl rfl rfl ?_
          refine e_load q_105 rfl rfl rfl ?_
          refine e_ireturn q_105 rfl rfl ?_
          show Ev S (d + 4) 113 13 [some (.inr (some 0)), some (.inl 6), some (.inl x1), some (.inl x2)] [.inl (-100001)] (up σ 0 5 ((σ 0 5) + 1)) _
          refine e_ireturn q_113 rfl rfl ?_
          show Ev S (d + 5) 90 5 [some (.inr (some 0)), some (.inl x1), some (.inl x2)] [.inl (-100001)] (up σ 0 5 ((σ 0 5) + 1)) _
          exact e_ireturn q_90 rfl rfl h
        · replace h := h.2 c
          refine e_load q_108 rfl rfl rfl ?_
          refine e_push q_108 rfl ?_
          refine e_icmp (P := x2 < 6) q_108 rfl m_c2 (fun c => ?_) (fun c => ?_)
          · replace h := h.1 c
            refine e_push q_108 rfl ?_
            refine e_zreturn q_108 rfl rfl (by decide) ?_
            show Ev S (d + 4) 113 9 [some (.inr (some 0)), some (.inl 6), some (.inl x1), some (.inl x2)] [.inl 0] σ _
            refine e_if (P := (0 : Int32) = 0) q_113 rfl m_c0 (fun _ => ?_) (fun c => absurd (by decide) c)
            refine e_load q_113 rfl rfl rfl ?_
            refine e_getR q_113 rfl rfl rfl ?_
            refine e_load q_113 rfl rfl rfl ?_
            refine e_virt q_113 rfl rfl (Nat.le_of_ble_eq_true rfl) rfl rfl (Nat.le_of_ble_eq_true rfl) rfl ?_
            show Ev S (d + 3) 12 0 [some (.inr (some 1)), some (.inl x1)] [] σ _
            refine e_load q_12 rfl rfl rfl ?_
            refine e_getR q_12 rfl rfl rfl ?_
            refine e_push q_12 rfl ?_
            refine e_load q_12 rfl rfl rfl ?_
            refine e_bin (r := 0 + x1) q_12 rfl rfl ?_
            obtain ⟨j3, hjj3, hlj3, h⟩ := h
            refine e_iald q_12 rfl rfl (by decide) hjj3 hlj3 ?_
            refine e_push q_12 rfl ?_
            refine e_icmp (P := ¬ (σ 2 j3) = 2) q_12 rfl m_c1 (fun c => ?_) (fun c => ?_)
            · replace h := h.1 c
              refine e_push q_12 rfl ?_
              refine e_zreturn q_12 rfl rfl (by decide) ?_
              show Ev S (d + 4) 113 18 [some (.inr (some 0)), some (.inl 6), some (.inl x1), some (.inl x2)] [.inl 0] σ _
              refine e_if (P := (0 : Int32) = 0) q_113 rfl m_c0 (fun _ => ?_) (fun c => absurd (by decide) c)
              refine e_load q_113 rfl rfl rfl ?_
              refine e_load q_113 rfl rfl rfl ?_
              refine e_load q_113 rfl rfl rfl ?_
              refine e_load q_113 rfl rfl rfl ?_
              exact e_virt q_113 rfl rfl (Nat.le_of_ble_eq_true rfl) rfl rfl (Nat.le_of_ble_eq_true rfl) rfl h
            · replace h := h.2 c
              refine e_push q_12 rfl ?_
              refine e_goto q_12 rfl ?_
              refine e_zreturn q_12 rfl rfl (by decide) ?_
              show Ev S (d + 4) 113 18 [some (.inr (some 0)), some (.inl 6), some (.inl x1), some (.inl x2)] [.inl 1] σ _
              refine e_if (P := (1 : Int32) = 0) q_113 rfl m_c0 (fun c => absurd c (by decide)) (fun _ => ?_)
              refine e_load q_113 rfl rfl rfl ?_
              refine e_push q_113 rfl ?_
              refine e_virt q_113 rfl rfl (Nat.le_of_ble_eq_true rfl) rfl rfl (Nat.le_of_ble_eq_true rfl) rfl ?_
              show Ev S (d + 3) 105 0 [some (.inr (some 0)), some (.inl (-100004))] [] σ _
              refine e_load q_105 rfl rfl rfl ?_
              refine e_dup q_105 rfl ?_
              refine e_getI q_105 rfl rfl rfl ?_
              refine e_push q_105 rfl ?_
              refine e_bin (r := (σ 0 5) + 1) q_105 rfl rfl ?_
              refine e_putI q_105 rfl rfl rfl ?_
              refine e_load q_105 rfl rfl rfl ?_
              refine e_ireturn q_105 rfl rfl ?_
              show Ev S (d + 4) 113 22 [some (.inr (some 0)), some (.inl 6), some (.inl x1), some (.inl x2)] [.inl (-100004)] (up σ 0 5 ((σ 0 5) + 1)) _
              refine e_ireturn q_113 rfl rfl ?_
              show Ev S (d + 5) 90 5 [some (.inr (some 0)), some (.inl x1), some (.inl x2)] [.inl (-100004)] (up σ 0 5 ((σ 0 5) + 1)) _
              exact e_ireturn q_90 rfl rfl h
          · replace h := h.2 c
            refine e_push q_108 rfl ?_
            refine e_goto q_108 rfl ?_
            refine e_zreturn q_108 rfl rfl (by decide) ?_
            show Ev S (d + 4) 113 9 [some (.inr (some 0)), some (.inl 6), some (.inl x1), some (.inl x2)] [.inl 1] σ _
            refine e_if (P := (1 : Int32) = 0) q_113 rfl m_c0 (fun c => absurd c (by decide)) (fun _ => ?_)
            refine e_load q_113 rfl rfl rfl ?_
            refine e_push q_113 rfl ?_
            refine e_virt q_113 rfl rfl (Nat.le_of_ble_eq_true rfl) rfl rfl (Nat.le_of_ble_eq_true rfl) rfl ?_
            show Ev S (d + 3) 105 0 [some (.inr (some 0)), some (.inl (-100001))] [] σ _
            refine e_load q_105 rfl rfl rfl ?_
            refine e_dup q_105 rfl ?_
            refine e_getI q_105 rfl rfl rfl ?_
            refine e_push q_105 rfl ?_
            refine e_bin (r := (σ 0 5) + 1) q_105 rfl rfl ?_
            refine e_putI q_105 rfl rfl rfl ?_
            refine e_load q_105 rfl rfl rfl ?_
            refine e_ireturn q_105 rfl rfl ?_
            show Ev S (d + 4) 113 13 [some (.inr (some 0)), some (.inl 6), some (.inl x1), some (.inl x2)] [.inl (-100001)] (up σ 0 5 ((σ 0 5) + 1)) _
            refine e_ireturn q_113 rfl rfl ?_
            show Ev S (d + 5) 90 5 [some (.inr (some 0)), some (.inl x1), some (.inl x2)] [.inl (-100001)] (up σ 0 5 ((σ 0 5) + 1)) _
            exact e_ireturn q_90 rfl rfl h
    · replace h := h.2 c
      refine e_push q_106 rfl ?_
      refine e_goto q_106 rfl ?_
      refine e_zreturn q_106 rfl rfl (by decide) ?_
      show Ev S (d + 4) 113 3 [some (.inr (some 0)), some (.inl 6), some (.inl x1), some (.inl x2)] [.inl 1] σ _
      refine e_if (P := ¬ (1 : Int32) = 0) q_113 rfl m_c1 (fun _ => ?_) (fun c => absurd (by decide) c)
      refine e_load q_113 rfl rfl rfl ?_
      refine e_push q_113 rfl ?_
      refine e_virt q_113 rfl rfl (Nat.le_of_ble_eq_true rfl) rfl rfl (Nat.le_of_ble_eq_true rfl) rfl ?_
      show Ev S (d + 3) 105 0 [some (.inr (some 0)), some (.inl (-100001))] [] σ _
      refine e_load q_105 rfl rfl rfl ?_
      refine e_dup q_105 rfl ?_
      refine e_getI q_105 rfl rfl rfl ?_
      refine e_push q_105 rfl ?_
      refine e_bin (r := (σ 0 5) + 1) q_105 rfl rfl ?_
      refine e_putI q_105 rfl rfl rfl ?_
      refine e_load q_105 rfl rfl rfl ?_
      refine e_ireturn q_105 rfl rfl ?_
      show Ev S (d + 4) 113 13 [some (.inr (some 0)), some (.inl 6), some (.inl x1), some (.inl x2)] [.inl (-100001)] (up σ 0 5 ((σ 0 5) + 1)) _
      refine e_ireturn q_113 rfl rfl ?_
      show Ev S (d + 5) 90 5 [some (.inr (some 0)), some (.inl x1), some (.inl x2)] [.inl (-100001)] (up σ 0 5 ((σ 0 5) + 1)) _
      exact e_ireturn q_90 rfl rfl h
theorem g_90_5 {S : Nat × (Nat → Int32)} {d : Nat} {σ : Mem} {Q : MQ1} {o0 : Option MV} {o1 : Option MV} {o2 : Option MV} {y0 : Int32}  (h : Q [.inl y0] σ) : Ev S (d + 5) 90 5 [o0, o1, o2] [.inl y0] σ Q := by
  exact e_ireturn q_90 rfl rfl h
theorem g_91_0 {S : Nat × (Nat → Int32)} {d : Nat} {σ : Mem} {Q : MQ1}   (h : Ec S (d + 4) 29 [.inr (some 3)] σ (fun rv σ' => Ev S (d + 5) 91 3 [some (.inr (some 0))] (rv ++ []) σ' Q)) : Ev S (d + 5) 91 0 [some (.inr (some 0))] [] σ Q := by
  refine e_load q_91 rfl rfl rfl ?_
  refine e_getR q_91 rfl rfl rfl ?_
  exact e_virt q_91 rfl rfl (Nat.le_of_ble_eq_true rfl) rfl rfl (Nat.le_of_ble_eq_true rfl) rfl h
theorem g_91_3 {S : Nat × (Nat → Int32)} {d : Nat} {σ : Mem} {Q : MQ1} {o0 : Option MV} {y0 : Int32}  (h : Q [.inl y0] σ) : Ev S (d + 5) 91 3 [o0] [.inl y0] σ Q := by
  exact e_ireturn q_91 rfl rfl h
theorem g_92_0 {S : Nat × (Nat → Int32)} {d : Nat} {σ : Mem} {Q : MQ1} {x1 : Int32}  (h : ((x1 < 0 → Q [.inl (-100001)] (up σ 0 5 ((σ 0 5) + 1))) ∧ (¬ (x1 < 0) → ((x1 < 6 → Ec S (d + 3) 30 [.inr (some 3), .inl x1] σ (fun rv σ' => Ev S (d + 4) 92 11 [some (.inr (some 0)), some (.inl x1)] (rv ++ []) σ' Q)) ∧ (¬ (x1 < 6) → Q [.inl (-100001)] (up σ 0 5 ((σ 0 5) + 1))))))) : Ev S (d + 4) 92 0 [some (.inr (some 0)), some (.inl x1)] [] σ Q := by
  refine e_load q_92 rfl rfl rfl ?_
  refine e_stat q_92 rfl (Nat.le_of_ble_eq_true rfl) rfl rfl (Nat.le_of_ble_eq_true rfl) ?_
  show Ev S (d + 3) 108 0 [some (.inl x1)] [] σ _
  refine e_load q_108 rfl rfl rfl ?_
  refine e_if (P := x1 < 0) q_108 rfl m_c2 (fun c => ?_) (fun c => ?_)
  · replace h := h.1 c
    refine e_push q_108 rfl ?_
    refine e_goto q_108 rfl ?_
    refine e_zreturn q_108 rfl rfl (by decide) ?_
    show Ev S (d + 4) 92 2 [some (.inr (some 0)), some (.inl x1)] [.inl 1] σ _
    refine e_if (P := (1 : Int32) = 0) q_92 rfl m_c0 (fun c => absurd c (by decide)) (fun _ => ?_)
    refine e_load q_92 rfl rfl rfl ?_
    refine e_push q_92 rfl ?_
    refine e_virt q_92 rfl rfl (Nat.le_of_ble_eq_true rfl) rfl rfl (Nat.le_of_ble_eq_true rfl) rfl ?_
    show Ev S (d + 3) 105 0 [some (.inr (some 0)), some (.inl (-100001))] [] σ _
    refine e_load q_105 rfl rfl rfl ?_
    refine e_dup q_105 rfl ?_
    refine e_getI q_105 rfl rfl rfl ?_
    refine e_push q_105 rfl ?_
    refine e_bin (r := (σ 0 5) + 1) q_105 rfl rfl ?_
    refine e_putI q_105 rfl rfl rfl ?_
    refine e_load q_105 rfl rfl rfl ?_
    refine e_ireturn q_105 rfl rfl ?_
    show Ev S (d + 4) 92 6 [some (.inr (some 0)), some (.inl x1)] [.inl (-100001)] (up σ 0 5 ((σ 0 5) + 1)) _
    refine e_goto q_92 rfl ?_
    exact e_ireturn q_92 rfl rfl h
  · replace h := h.2 c
    refine e_load q_108 rfl rfl rfl ?_
    refine e_push q_108 rfl ?_
    refine e_icmp (P := x1 < 6) q_108 rfl m_c2 (fun c => ?_) (fun c => ?_)
    · replace h := h.1 c
      refine e_push q_108 rfl ?_
      refine e_zreturn q_108 rfl rfl (by decide) ?_
      show Ev S (d + 4) 92 2 [some (.inr (some 0)), some (.inl x1)] [.inl 0] σ _
      refine e_if (P := (0 : Int32) = 0) q_92 rfl m_c0 (fun _ => ?_) (fun c => absurd (by decide) c)
      refine e_load q_92 rfl rfl rfl ?_
      refine e_getR q_92 rfl rfl rfl ?_
      refine e_load q_92 rfl rfl rfl ?_
      exact e_virt q_92 rfl rfl (Nat.le_of_ble_eq_true rfl) rfl rfl (Nat.le_of_ble_eq_true rfl) rfl h
    · replace h := h.2 c
      refine e_push q_108 rfl ?_
      refine e_goto q_108 rfl ?_
      refine e_zreturn q_108 rfl rfl (by decide) ?_
      show Ev S (d + 4) 92 2 [some (.inr (some 0)), some (.inl x1)] [.inl 1] σ _
      refine e_if (P := (1 : Int32) = 0) q_92 rfl m_c0 (fun c => absurd c (by decide)) (fun _ => ?_)
      refine e_load q_92 rfl rfl rfl ?_
      refine e_push q_92 rfl ?_
      refine e_virt q_92 rfl rfl (Nat.le_of_ble_eq_true rfl) rfl rfl (Nat.le_of_ble_eq_true rfl) rfl ?_
      show Ev S (d + 3) 105 0 [some (.inr (some 0)), some (.inl (-100001))] [] σ _
      refine e_load q_105 rfl rfl rfl ?_
      refine e_dup q_105 rfl ?_
      refine e_getI q_105 rfl rfl rfl ?_
      refine e_push q_105 rfl ?_
      refine e_bin (r := (σ 0 5) + 1) q_105 rfl rfl ?_
      refine e_putI q_105 rfl rfl rfl ?_
      refine e_load q_105 rfl rfl rfl ?_
      refine e_ireturn q_105 rfl rfl ?_
      show Ev S (d + 4) 92 6 [some (.inr (some 0)), some (.inl x1)] [.inl (-100001)] (up σ 0 5 ((σ 0 5) + 1)) _
      refine e_goto q_92 rfl ?_
      exact e_ireturn q_92 rfl rfl h
theorem g_92_11 {S : Nat × (Nat → Int32)} {d : Nat} {σ : Mem} {Q : MQ1} {o0 : Option MV} {o1 : Option MV} {y0 : Int32}  (h : Q [.inl y0] σ) : Ev S (d + 4) 92 11 [o0, o1] [.inl y0] σ Q := by
  exact e_ireturn q_92 rfl rfl h
theorem g_93_0 {S : Nat × (Nat → Int32)} {d : Nat} {σ : Mem} {Q : MQ1}   (h : Ev S (d + 4) 93 4 [some (.inr (some 0)), some (.inl 0), some (.inl 0), none] [] σ Q) : Ev S (d + 4) 93 0 [some (.inr (some 0)), none, none, none] [] σ Q := by
  refine e_push q_93 rfl ?_
  refine e_store (ls' := [some (.inr (some 0)), some (.inl 0), none, none]) q_93 rfl (Nat.le_of_ble_eq_true rfl) rfl rfl ?_
  refine e_push q_93 rfl ?_
  refine e_store (ls' := [some (.inr (some 0)), some (.inl 0), some (.inl 0), none]) q_93 rfl (Nat.le_of_ble_eq_true rfl) rfl rfl ?_
  exact h
theorem g_93_4 {S : Nat × (Nat → Int32)} {d : Nat} {σ : Mem} {Q : MQ1} {x1 : Int32} {x2 : Int32} {o3 : Option MV}  (h : ((6 ≤ x2 → Q [.inl x1] σ) ∧ (¬ (6 ≤ x2) → Ec S (d + 3) 30 [.inr (some 3), .inl x2] σ (fun rv σ' => Ev S (d + 4) 93 11 [some (.inr (some 0)), some (.inl x1), some (.inl x2), o3] (rv ++ []) σ' Q)))) : Ev S (d + 4) 93 4 [some (.inr (some 0)), some (.inl x1), some (.inl x2), o3] [] σ Q := by
  refine e_load q_93 rfl rfl rfl ?_
  refine e_push q_93 rfl ?_
  refine e_icmp (P := 6 ≤ x2) q_93 rfl m_c3 (fun c => ?_) (fun c => ?_)
  · replace h := h.1 c
    refine e_load q_93 rfl rfl rfl ?_
    exact e_ireturn q_93 rfl rfl h
  · replace h := h.2 c
    refine e_load q_93 rfl rfl rfl ?_
    refine e_getR q_93 rfl rfl rfl ?_
    refine e_load q_93 rfl rfl rfl ?_
    exact e_virt q_93 rfl rfl (Nat.le_of_ble_eq_true rfl) rfl rfl (Nat.le_of_ble_eq_true rfl) rfl h
theorem g_93_11 {S : Nat × (Nat → Int32)} {d : Nat} {σ : Mem} {Q : MQ1} {x1 : Int32} {x2 : Int32} {o3 : Option MV} {y0 : Int32}  (h : Ev S (d + 4) 93 4 [some (.inr (some 0)), some (.inl (x1 + (y0 * y0))), some (.inl (x2 + 1)), some (.inl y0)] [] σ Q) : Ev S (d + 4) 93 11 [some (.inr (some 0)), some (.inl x1), some (.inl x2), o3] [.inl y0] σ Q := by
  refine e_store (ls' := [some (.inr (some 0)), some (.inl x1), some (.inl x2), some (.inl y0)]) q_93 rfl (Nat.le_of_ble_eq_true rfl) rfl rfl ?_
  refine e_load q_93 rfl rfl rfl ?_
  refine e_load q_93 rfl rfl rfl ?_
  refine e_load q_93 rfl rfl rfl ?_
  refine e_bin (r := y0 * y0) q_93 rfl rfl ?_
  refine e_bin (r := x1 + (y0 * y0)) q_93 rfl rfl ?_
  refine e_store (ls' := [some (.inr (some 0)), some (.inl (x1 + (y0 * y0))), some (.inl x2), some (.inl y0)]) q_93 rfl (Nat.le_of_ble_eq_true rfl) rfl rfl ?_
  refine e_iinc (ls' := [some (.inr (some 0)), some (.inl (x1 + (y0 * y0))), some (.inl (x2 + 1)), some (.inl y0)]) q_93 rfl rfl rfl ?_
  refine e_goto q_93 rfl ?_
  exact h
theorem g_94_0 {S : Nat × (Nat → Int32)} {d : Nat} {σ : Mem} {Q : MQ1} {x1 : Int32}  (h : Ec S (d + 3) 14 [.inr (some 1)] σ (fun rv σ' => Ev S (d + 4) 47 6 [some (.inr (some 4))] (rv ++ [.inl (σ 2 80)]) σ' (fun rv σ' => Ev S (d + 5) 114 3 [some (.inr (some 0)), some (.inl 0), some (.inl x1), none] (rv ++ []) σ' (fun rv σ' => Ev S (d + 6) 94 4 [some (.inr (some 0)), some (.inl x1)] (rv ++ []) σ' Q)))) : Ev S (d + 6) 94 0 [some (.inr (some 0)), some (.inl x1)] [] σ Q := by
  refine e_load q_94 rfl rfl rfl ?_
  refine e_push q_94 rfl ?_
  refine e_load q_94 rfl rfl rfl ?_
  refine e_virt q_94 rfl rfl (Nat.le_of_ble_eq_true rfl) rfl rfl (Nat.le_of_ble_eq_true rfl) rfl ?_
  show Ev S (d + 5) 114 0 [some (.inr (some 0)), some (.inl 0), some (.inl x1), none] [] σ _
  refine e_load q_114 rfl rfl rfl ?_
  refine e_getR q_114 rfl rfl rfl ?_
  refine e_virt q_114 rfl rfl (Nat.le_of_ble_eq_true rfl) rfl rfl (Nat.le_of_ble_eq_true rfl) rfl ?_
  show Ev S (d + 4) 47 0 [some (.inr (some 4))] [] σ _
  refine e_load q_47 rfl rfl rfl ?_
  refine e_getR q_47 rfl rfl rfl ?_
  refine e_virt q_47 rfl rfl (Nat.le_of_ble_eq_true rfl) rfl rfl (Nat.le_of_ble_eq_true rfl) rfl ?_
  show Ev S (d + 3) 7 0 [some (.inr (some 1))] [] σ _
  refine e_load q_7 rfl rfl rfl ?_
  refine e_getR q_7 rfl rfl rfl ?_
  refine e_push q_7 rfl ?_
  refine e_iald (j := 80) q_7 rfl rfl (by decide) (by decide +kernel) (by decide) ?_
  refine e_ireturn q_7 rfl rfl ?_
  show Ev S (d + 4) 47 3 [some (.inr (some 4))] [.inl (σ 2 80)] σ _
  refine e_load q_47 rfl rfl rfl ?_
  refine e_getR q_47 rfl rfl rfl ?_
  exact e_virt q_47 rfl rfl (Nat.le_of_ble_eq_true rfl) rfl rfl (Nat.le_of_ble_eq_true rfl) rfl h
theorem g_94_4 {S : Nat × (Nat → Int32)} {d : Nat} {σ : Mem} {Q : MQ1} {o0 : Option MV} {o1 : Option MV} {y0 : Int32}  (h : Q [.inl y0] σ) : Ev S (d + 6) 94 4 [o0, o1] [.inl y0] σ Q := by
  exact e_ireturn q_94 rfl rfl h
theorem g_95_0 {S : Nat × (Nat → Int32)} {d : Nat} {σ : Mem} {Q : MQ1}   (h : Ec S (d + 3) 14 [.inr (some 1)] σ (fun rv σ' => Ev S (d + 4) 47 6 [some (.inr (some 4))] (rv ++ [.inl (σ 2 80)]) σ' (fun rv σ' => Ev S (d + 5) 114 3 [some (.inr (some 0)), some (.inl 2), some (.inl 0), none] (rv ++ []) σ' (fun rv σ' => Ev S (d + 6) 95 4 [some (.inr (some 0))] (rv ++ []) σ' Q)))) : Ev S (d + 6) 95 0 [some (.inr (some 0))] [] σ Q := by
  refine e_load q_95 rfl rfl rfl ?_
  refine e_push q_95 rfl ?_
  refine e_push q_95 rfl ?_
  refine e_virt q_95 rfl rfl (Nat.le_of_ble_eq_true rfl) rfl rfl (Nat.le_of_ble_eq_true rfl) rfl ?_
  show Ev S (d + 5) 114 0 [some (.inr (some 0)), some (.inl 2), some (.inl 0), none] [] σ _
  refine e_load q_114 rfl rfl rfl ?_
  refine e_getR q_114 rfl rfl rfl ?_
  refine e_virt q_114 rfl rfl (Nat.le_of_ble_eq_true rfl) rfl rfl (Nat.le_of_ble_eq_true rfl) rfl ?_
  show Ev S (d + 4) 47 0 [some (.inr (some 4))] [] σ _
  refine e_load q_47 rfl rfl rfl ?_
  refine e_getR q_47 rfl rfl rfl ?_
  refine e_virt q_47 rfl rfl (Nat.le_of_ble_eq_true rfl) rfl rfl (Nat.le_of_ble_eq_true rfl) rfl ?_
  show Ev S (d + 3) 7 0 [some (.inr (some 1))] [] σ _
  refine e_load q_7 rfl rfl rfl ?_
  refine e_getR q_7 rfl rfl rfl ?_
  refine e_push q_7 rfl ?_
  refine e_iald (j := 80) q_7 rfl rfl (by decide) (by decide +kernel) (by decide) ?_
  refine e_ireturn q_7 rfl rfl ?_
  show Ev S (d + 4) 47 3 [some (.inr (some 4))] [.inl (σ 2 80)] σ _
  refine e_load q_47 rfl rfl rfl ?_
  refine e_getR q_47 rfl rfl rfl ?_
  exact e_virt q_47 rfl rfl (Nat.le_of_ble_eq_true rfl) rfl rfl (Nat.le_of_ble_eq_true rfl) rfl h
theorem g_95_4 {S : Nat × (Nat → Int32)} {d : Nat} {σ : Mem} {Q : MQ1} {o0 : Option MV} {y0 : Int32}  (h : Q [.inl y0] σ) : Ev S (d + 6) 95 4 [o0] [.inl y0] σ Q := by
  exact e_ireturn q_95 rfl rfl h
theorem g_96_0 {S : Nat × (Nat → Int32)} {d : Nat} {σ : Mem} {Q : MQ1} {x1 : Int32}  (h : Ec S (d + 3) 14 [.inr (some 1)] σ (fun rv σ' => Ev S (d + 4) 47 6 [some (.inr (some 4))] (rv ++ [.inl (σ 2 80)]) σ' (fun rv σ' => Ev S (d + 5) 114 3 [some (.inr (some 0)), some (.inl 1), some (.inl x1), none] (rv ++ []) σ' (fun rv σ' => Ev S (d + 6) 96 4 [some (.inr (some 0)), some (.inl x1)] (rv ++ []) σ' Q)))) : Ev S (d + 6) 96 0 [some (.inr (some 0)), some (.inl x1)] [] σ Q := by
  refine e_load q_96 rfl rfl rfl ?_
  refine e_push q_96 rfl ?_
  refine e_load q_96 rfl rfl rfl ?_
  refine e_virt q_96 rfl rfl (Nat.le_of_ble_eq_true rfl) rfl rfl (Nat.le_of_ble_eq_true rfl) rfl ?_
  show Ev S (d + 5) 114 0 [some (.inr (some 0)), some (.inl 1), some (.inl x1), none] [] σ _
  refine e_load q_114 rfl rfl rfl ?_
  refine e_getR q_114 rfl rfl rfl ?_
  refine e_virt q_114 rfl rfl (Nat.le_of_ble_eq_true rfl) rfl rfl (Nat.le_of_ble_eq_true rfl) rfl ?_
  show Ev S (d + 4) 47 0 [some (.inr (some 4))] [] σ _
  refine e_load q_47 rfl rfl rfl ?_
  refine e_getR q_47 rfl rfl rfl ?_
  refine e_virt q_47 rfl rfl (Nat.le_of_ble_eq_true rfl) rfl rfl (Nat.le_of_ble_eq_true rfl) rfl ?_
  show Ev S (d + 3) 7 0 [some (.inr (some 1))] [] σ _
  refine e_load q_7 rfl rfl rfl ?_
  refine e_getR q_7 rfl rfl rfl ?_
  refine e_push q_7 rfl ?_
  refine e_iald (j := 80) q_7 rfl rfl (by decide) (by decide +kernel) (by decide) ?_
  refine e_ireturn q_7 rfl rfl ?_
  show Ev S (d + 4) 47 3 [some (.inr (some 4))] [.inl (σ 2 80)] σ _
  refine e_load q_47 rfl rfl rfl ?_
  refine e_getR q_47 rfl rfl rfl ?_
  exact e_virt q_47 rfl rfl (Nat.le_of_ble_eq_true rfl) rfl rfl (Nat.le_of_ble_eq_true rfl) rfl h
theorem g_96_4 {S : Nat × (Nat → Int32)} {d : Nat} {σ : Mem} {Q : MQ1} {o0 : Option MV} {o1 : Option MV} {y0 : Int32}  (h : Q [.inl y0] σ) : Ev S (d + 6) 96 4 [o0, o1] [.inl y0] σ Q := by
  exact e_ireturn q_96 rfl rfl h
theorem g_97_0 {S : Nat × (Nat → Int32)} {d : Nat} {σ : Mem} {Q : MQ1} {x1 : Int32} {x2 : Int32}  (h : ((x1 < 0 → Q [.inl (-100001)] (up σ 0 5 ((σ 0 5) + 1))) ∧ (¬ (x1 < 0) → ((x1 < 6 → Ev S (d + 2) 97 13 [some (.inr (some 0)), some (.inl x1), some (.inl x2), some (.inl 0), some (.inl 0), some (.inl 0), none] [] σ Q) ∧ (¬ (x1 < 6) → Q [.inl (-100001)] (up σ 0 5 ((σ 0 5) + 1))))))) : Ev S (d + 2) 97 0 [some (.inr (some 0)), some (.inl x1), some (.inl x2), none, none, none, none] [] σ Q := by
  refine e_load q_97 rfl rfl rfl ?_
  refine e_stat q_97 rfl (Nat.le_of_ble_eq_true rfl) rfl rfl (Nat.le_of_ble_eq_true rfl) ?_
  show Ev S (d + 1) 108 0 [some (.inl x1)] [] σ _
  refine e_load q_108 rfl rfl rfl ?_
  refine e_if (P := x1 < 0) q_108 rfl m_c2 (fun c => ?_) (fun c => ?_)
  · replace h := h.1 c
    refine e_push q_108 rfl ?_
    refine e_goto q_108 rfl ?_
    refine e_zreturn q_108 rfl rfl (by decide) ?_
    show Ev S (d + 2) 97 2 [some (.inr (some 0)), some (.inl x1), some (.inl x2), none, none, none, none] [.inl 1] σ _
    refine e_if (P := (1 : Int32) = 0) q_97 rfl m_c0 (fun c => absurd c (by decide)) (fun _ => ?_)
    refine e_load q_97 rfl rfl rfl ?_
    refine e_push q_97 rfl ?_
    refine e_virt q_97 rfl rfl (Nat.le_of_ble_eq_true rfl) rfl rfl (Nat.le_of_ble_eq_true rfl) rfl ?_
    show Ev S (d + 1) 105 0 [some (.inr (some 0)), some (.inl (-100001))] [] σ _
    refine e_load q_105 rfl rfl rfl ?_
    refine e_dup q_105 rfl ?_
    refine e_getI q_105 rfl rfl rfl ?_
    refine e_push q_105 rfl ?_
    refine e_bin (r := (σ 0 5) + 1) q_105 rfl rfl ?_
    refine e_putI q_105 rfl rfl rfl ?_
    refine e_load q_105 rfl rfl rfl ?_
    refine e_ireturn q_105 rfl rfl ?_
    show Ev S (d + 2) 97 6 [some (.inr (some 0)), some (.inl x1), some (.inl x2), none, none, none, none] [.inl (-100001)] (up σ 0 5 ((σ 0 5) + 1)) _
    exact e_ireturn q_97 rfl rfl h
  · replace h := h.2 c
    refine e_load q_108 rfl rfl rfl ?_
    refine e_push q_108 rfl ?_
    refine e_icmp (P := x1 < 6) q_108 rfl m_c2 (fun c => ?_) (fun c => ?_)
    · replace h := h.1 c
      refine e_push q_108 rfl ?_
      refine e_zreturn q_108 rfl rfl (by decide) ?_
      show Ev S (d + 2) 97 2 [some (.inr (some 0)), some (.inl x1), some (.inl x2), none, none, none, none] [.inl 0] σ _
      refine e_if (P := (0 : Int32) = 0) q_97 rfl m_c0 (fun _ => ?_) (fun c => absurd (by decide) c)
      refine e_push q_97 rfl ?_
      refine e_store (ls' := [some (.inr (some 0)), some (.inl x1), some (.inl x2), some (.inl 0), none, none, none]) q_97 rfl (Nat.le_of_ble_eq_true rfl) rfl rfl ?_
      refine e_push q_97 rfl ?_
      refine e_store (ls' := [some (.inr (some 0)), some (.inl x1), some (.inl x2), some (.inl 0), some (.inl 0), none, none]) q_97 rfl (Nat.le_of_ble_eq_true rfl) rfl rfl ?_
      refine e_push q_97 rfl ?_
      refine e_store (ls' := [some (.inr (some 0)), some (.inl x1), some (.inl x2), some (.inl 0), some (.inl 0), some (.inl 0), none]) q_97 rfl (Nat.le_of_ble_eq_true rfl) rfl rfl ?_
      exact h
    · replace h := h.2 c
      refine e_push q_108 rfl ?_
      refine e_goto q_108 rfl ?_
      refine e_zreturn q_108 rfl rfl (by decide) ?_
      show Ev S (d + 2) 97 2 [some (.inr (some 0)), some (.inl x1), some (.inl x2), none, none, none, none] [.inl 1] σ _
      refine e_if (P := (1 : Int32) = 0) q_97 rfl m_c0 (fun c => absurd c (by decide)) (fun _ => ?_)
      refine e_load q_97 rfl rfl rfl ?_
      refine e_push q_97 rfl ?_
      refine e_virt q_97 rfl rfl (Nat.le_of_ble_eq_true rfl) rfl rfl (Nat.le_of_ble_eq_true rfl) rfl ?_
      show Ev S (d + 1) 105 0 [some (.inr (some 0)), some (.inl (-100001))] [] σ _
      refine e_load q_105 rfl rfl rfl ?_
      refine e_dup q_105 rfl ?_
      refine e_getI q_105 rfl rfl rfl ?_
      refine e_push q_105 rfl ?_
      refine e_bin (r := (σ 0 5) + 1) q_105 rfl rfl ?_
      refine e_putI q_105 rfl rfl rfl ?_
      refine e_load q_105 rfl rfl rfl ?_
      refine e_ireturn q_105 rfl rfl ?_
      show Ev S (d + 2) 97 6 [some (.inr (some 0)), some (.inl x1), some (.inl x2), none, none, none, none] [.inl (-100001)] (up σ 0 5 ((σ 0 5) + 1)) _
      exact e_ireturn q_97 rfl rfl h
theorem g_97_13 {S : Nat × (Nat → Int32)} {d : Nat} {σ : Mem} {Q : MQ1} {x1 : Int32} {x2 : Int32} {x3 : Int32} {x4 : Int32} {x5 : Int32} {o6 : Option MV}  (h : (((σ 2 80) ≤ x5 → Ec S (d + 1) 15 [.inr (some 1), .inl x4] σ (fun rv σ' => Ev S (d + 2) 97 50 [some (.inr (some 0)), some (.inl x1), some (.inl x2), some (.inl x3), some (.inl x4), some (.inl x5), o6] (rv ++ [.inl x3]) σ' Q)) ∧ (¬ ((σ 2 80) ≤ x5) → (∃ j2 : Nat, (5 * 8) + x5 = nI j2 ∧ j2 < 81 ∧ (((σ 2 j2) < x1 → (((σ 2 j2) = (-1) → Ev S (d + 2) 97 13 [some (.inr (some 0)), some (.inl x1), some (.inl x2), some (.inl x3), some (.inl x4), some (.inl (x5 + 1)), some (.inl (σ 2 j2))] [] σ Q) ∧ (¬ ((σ 2 j2) = (-1)) → Ev S (d + 2) 97 13 [some (.inr (some 0)), some (.inl x1), some (.inl x2), some (.inl (x3 ||| (1 <<< (x5 &&& 31)))), some (.inl x4), some (.inl (x5 + 1)), some (.inl (σ 2 j2))] [] σ Q))) ∧ (¬ ((σ 2 j2) < x1) → Ev S (d + 2) 97 13 [some (.inr (some 0)), some (.inl x1), some (.inl x2), some (.inl x3), some (.inl (x4 ||| (1 <<< (x5 &&& 31)))), some (.inl (x5 + 1)), some (.inl (σ 2 j2))] [] σ Q)))))) : Ev S (d + 2) 97 13 [some (.inr (some 0)), some (.inl x1), some (.inl x2), some (.inl x3), some (.inl x4), some (.inl x5), o6] [] σ Q := by
  refine e_load q_97 rfl rfl rfl ?_
  refine e_load q_97 rfl rfl rfl ?_
  refine e_getR q_97 rfl rfl rfl ?_
  refine e_virt q_97 rfl rfl (Nat.le_of_ble_eq_true rfl) rfl rfl (Nat.le_of_ble_eq_true rfl) rfl ?_
  show Ev S (d + 1) 7 0 [some (.inr (some 1))] [] σ _
  refine e_load q_7 rfl rfl rfl ?_
  refine e_getR q_7 rfl rfl rfl ?_
  refine e_push q_7 rfl ?_
  refine e_iald (j := 80) q_7 rfl rfl (by decide) (by decide +kernel) (by decide) ?_
  refine e_ireturn q_7 rfl rfl ?_
  show Ev S (d + 2) 97 17 [some (.inr (some 0)), some (.inl x1), some (.inl x2), some (.inl x3), some (.inl x4), some (.inl x5), o6] [.inl (σ 2 80), .inl x5] σ _
  refine e_icmp (P := (σ 2 80) ≤ x5) q_97 rfl m_c3 (fun c => ?_) (fun c => ?_)
  · replace h := h.1 c
    refine e_load q_97 rfl rfl rfl ?_
    refine e_load q_97 rfl rfl rfl ?_
    refine e_getR q_97 rfl rfl rfl ?_
    refine e_load q_97 rfl rfl rfl ?_
    exact e_virt q_97 rfl rfl (Nat.le_of_ble_eq_true rfl) rfl rfl (Nat.le_of_ble_eq_true rfl) rfl h
  · replace h := h.2 c
    refine e_load q_97 rfl rfl rfl ?_
    refine e_getR q_97 rfl rfl rfl ?_
    refine e_push q_97 rfl ?_
    refine e_load q_97 rfl rfl rfl ?_
    refine e_virt q_97 rfl rfl (Nat.le_of_ble_eq_true rfl) rfl rfl (Nat.le_of_ble_eq_true rfl) rfl ?_
    show Ev S (d + 1) 8 0 [some (.inr (some 1)), some (.inl 5), some (.inl x5)] [] σ _
    refine e_load q_8 rfl rfl rfl ?_
    refine e_getR q_8 rfl rfl rfl ?_
    refine e_load q_8 rfl rfl rfl ?_
    refine e_push q_8 rfl ?_
    refine e_bin (r := 5 * 8) q_8 rfl rfl ?_
    refine e_load q_8 rfl rfl rfl ?_
    refine e_bin (r := (5 * 8) + x5) q_8 rfl rfl ?_
    obtain ⟨j2, hjj2, hlj2, h⟩ := h
    refine e_iald q_8 rfl rfl (by decide) hjj2 hlj2 ?_
    refine e_ireturn q_8 rfl rfl ?_
    show Ev S (d + 2) 97 23 [some (.inr (some 0)), some (.inl x1), some (.inl x2), some (.inl x3), some (.inl x4), some (.inl x5), o6] [.inl (σ 2 j2)] σ _
    refine e_store (ls' := [some (.inr (some 0)), some (.inl x1), some (.inl x2), some (.inl x3), some (.inl x4), some (.inl x5), some (.inl (σ 2 j2))]) q_97 rfl (Nat.le_of_ble_eq_true rfl) rfl rfl ?_
    refine e_load q_97 rfl rfl rfl ?_
    refine e_load q_97 rfl rfl rfl ?_
    refine e_icmp (P := (σ 2 j2) < x1) q_97 rfl m_c2 (fun c => ?_) (fun c => ?_)
    · replace h := h.1 c
      refine e_load q_97 rfl rfl rfl ?_
      refine e_push q_97 rfl ?_
      refine e_icmp (P := (σ 2 j2) = (-1)) q_97 rfl m_c0 (fun c => ?_) (fun c => ?_)
      · replace h := h.1 c
        refine e_iinc (ls' := [some (.inr (some 0)), some (.inl x1), some (.inl x2), some (.inl x3), some (.inl x4), some (.inl (x5 + 1)), some (.inl (σ 2 j2))]) q_97 rfl rfl rfl ?_
        refine e_goto q_97 rfl ?_
        exact h
      · replace h := h.2 c
        refine e_load q_97 rfl rfl rfl ?_
        refine e_push q_97 rfl ?_
        refine e_load q_97 rfl rfl rfl ?_
        refine e_bin (r := 1 <<< (x5 &&& 31)) q_97 rfl rfl ?_
        refine e_bin (r := x3 ||| (1 <<< (x5 &&& 31))) q_97 rfl rfl ?_
        refine e_store (ls' := [some (.inr (some 0)), some (.inl x1), some (.inl x2), some (.inl (x3 ||| (1 <<< (x5 &&& 31)))), some (.inl x4), some (.inl x5), some (.inl (σ 2 j2))]) q_97 rfl (Nat.le_of_ble_eq_true rfl) rfl rfl ?_
        refine e_iinc (ls' := [some (.inr (some 0)), some (.inl x1), some (.inl x2), some (.inl (x3 ||| (1 <<< (x5 &&& 31)))), some (.inl x4), some (.inl (x5 + 1)), some (.inl (σ 2 j2))]) q_97 rfl rfl rfl ?_
        refine e_goto q_97 rfl ?_
        exact h
    · replace h := h.2 c
      refine e_load q_97 rfl rfl rfl ?_
      refine e_push q_97 rfl ?_
      refine e_load q_97 rfl rfl rfl ?_
      refine e_bin (r := 1 <<< (x5 &&& 31)) q_97 rfl rfl ?_
      refine e_bin (r := x4 ||| (1 <<< (x5 &&& 31))) q_97 rfl rfl ?_
      refine e_store (ls' := [some (.inr (some 0)), some (.inl x1), some (.inl x2), some (.inl x3), some (.inl (x4 ||| (1 <<< (x5 &&& 31)))), some (.inl x5), some (.inl (σ 2 j2))]) q_97 rfl (Nat.le_of_ble_eq_true rfl) rfl rfl ?_
      refine e_goto q_97 rfl ?_
      refine e_iinc (ls' := [some (.inr (some 0)), some (.inl x1), some (.inl x2), some (.inl x3), some (.inl (x4 ||| (1 <<< (x5 &&& 31)))), some (.inl (x5 + 1)), some (.inl (σ 2 j2))]) q_97 rfl rfl rfl ?_
      refine e_goto q_97 rfl ?_
      exact h
theorem g_97_50 {S : Nat × (Nat → Int32)} {d : Nat} {σ : Mem} {Q : MQ1} {o1 : Option MV} {x2 : Int32} {o3 : Option MV} {o4 : Option MV} {o5 : Option MV} {o6 : Option MV} {y0 : Int32} {y1 : Int32}  (h : ((x2 = 0 → Q [.inl (y0 &&& y1)] σ) ∧ (¬ (x2 = 0) → Ec S (d + 1) 115 [.inr (some 0), .inl (y0 &&& y1)] σ (fun rv σ' => Ev S (d + 2) 97 57 [some (.inr (some 0)), o1, some (.inl x2), o3, o4, some (.inl (y0 &&& y1)), o6] (rv ++ []) σ' Q)))) : Ev S (d + 2) 97 50 [some (.inr (some 0)), o1, some (.inl x2), o3, o4, o5, o6] [.inl y1, .inl y0] σ Q := by
  refine e_bin (r := y0 &&& y1) q_97 rfl rfl ?_
  refine e_store (ls' := [some (.inr (some 0)), o1, some (.inl x2), o3, o4, some (.inl (y0 &&& y1)), o6]) q_97 rfl (Nat.le_of_ble_eq_true rfl) rfl rfl ?_
  refine e_load q_97 rfl rfl rfl ?_
  refine e_if (P := x2 = 0) q_97 rfl m_c0 (fun c => ?_) (fun c => ?_)
  · replace h := h.1 c
    refine e_load q_97 rfl rfl rfl ?_
    exact e_ireturn q_97 rfl rfl h
  · replace h := h.2 c
    refine e_load q_97 rfl rfl rfl ?_
    refine e_load q_97 rfl rfl rfl ?_
    exact e_virt q_97 rfl rfl (Nat.le_of_ble_eq_true rfl) rfl rfl (Nat.le_of_ble_eq_true rfl) rfl h
theorem g_97_57 {S : Nat × (Nat → Int32)} {d : Nat} {σ : Mem} {Q : MQ1} {o0 : Option MV} {o1 : Option MV} {o2 : Option MV} {o3 : Option MV} {o4 : Option MV} {o5 : Option MV} {o6 : Option MV} {y0 : Int32}  (h : Q [.inl y0] σ) : Ev S (d + 2) 97 57 [o0, o1, o2, o3, o4, o5, o6] [.inl y0] σ Q := by
  refine e_goto q_97 rfl ?_
  exact e_ireturn q_97 rfl rfl h
theorem g_98_0 {S : Nat × (Nat → Int32)} {d : Nat} {σ : Mem} {Q : MQ1} {x1 : Int32}  (h : Ev S (d + 2) 98 4 [some (.inr (some 0)), some (.inl x1), some (.inl 0), some (.inl 0)] [] σ Q) : Ev S (d + 2) 98 0 [some (.inr (some 0)), some (.inl x1), none, none] [] σ Q := by
  refine e_push q_98 rfl ?_
  refine e_store (ls' := [some (.inr (some 0)), some (.inl x1), some (.inl 0), none]) q_98 rfl (Nat.le_of_ble_eq_true rfl) rfl rfl ?_
  refine e_push q_98 rfl ?_
  refine e_store (ls' := [some (.inr (some 0)), some (.inl x1), some (.inl 0), some (.inl 0)]) q_98 rfl (Nat.le_of_ble_eq_true rfl) rfl rfl ?_
  exact h
theorem g_98_4 {S : Nat × (Nat → Int32)} {d : Nat} {σ : Mem} {Q : MQ1} {x1 : Int32} {x2 : Int32} {x3 : Int32}  (h : (((σ 2 80) ≤ x3 → ((x1 = 0 → Q [.inl x2] σ) ∧ (¬ (x1 = 0) → Q [.inl (65535 &&& (x2 ^^^ (-1)))] σ))) ∧ (¬ ((σ 2 80) ≤ x3) → (∃ j2 : Nat, 0 + x3 = nI j2 ∧ j2 < 81 ∧ (((¬ (σ 2 j2) = 2) → (∃ j3 : Nat, (5 * 8) + x3 = nI j3 ∧ j3 < 81 ∧ (((σ 2 j3) = (-1) → Ev S (d + 2) 98 4 [some (.inr (some 0)), some (.inl x1), some (.inl x2), some (.inl (x3 + 1))] [] σ Q) ∧ (¬ ((σ 2 j3) = (-1)) → (∃ j4 : Nat, (4 * 8) + x3 = nI j4 ∧ j4 < 81 ∧ Ev S (d + 2) 98 4 [some (.inr (some 0)), some (.inl x1), some (.inl (x2 ||| (σ 2 j4))), some (.inl (x3 + 1))] [] σ Q))))) ∧ (¬ (¬ (σ 2 j2) = 2) → (∃ j5 : Nat, (4 * 8) + x3 = nI j5 ∧ j5 < 81 ∧ Ev S (d + 2) 98 4 [some (.inr (some 0)), some (.inl x1), some (.inl (x2 ||| (σ 2 j5))), some (.inl (x3 + 1))] [] σ Q))))))) : Ev S (d + 2) 98 4 [some (.inr (some 0)), some (.inl x1), some (.inl x2), some (.inl x3)] [] σ Q := by
  refine e_load q_98 rfl rfl rfl ?_
  refine e_load q_98 rfl rfl rfl ?_
  refine e_getR q_98 rfl rfl rfl ?_
  refine e_virt q_98 rfl rfl (Nat.le_of_ble_eq_true rfl) rfl rfl (Nat.le_of_ble_eq_true rfl) rfl ?_
  show Ev S (d + 1) 7 0 [some (.inr (some 1))] [] σ _
  refine e_load q_7 rfl rfl rfl ?_
  refine e_getR q_7 rfl rfl rfl ?_
  refine e_push q_7 rfl ?_
  refine e_iald (j := 80) q_7 rfl rfl (by decide) (by decide +kernel) (by decide) ?_
  refine e_ireturn q_7 rfl rfl ?_
  show Ev S (d + 2) 98 8 [some (.inr (some 0)), some (.inl x1), some (.inl x2), some (.inl x3)] [.inl (σ 2 80), .inl x3] σ _
  refine e_icmp (P := (σ 2 80) ≤ x3) q_98 rfl m_c3 (fun c => ?_) (fun c => ?_)
  · replace h := h.1 c
    refine e_load q_98 rfl rfl rfl ?_
    refine e_if (P := x1 = 0) q_98 rfl m_c0 (fun c => ?_) (fun c => ?_)
    · replace h := h.1 c
      refine e_load q_98 rfl rfl rfl ?_
      exact e_ireturn q_98 rfl rfl h
    · replace h := h.2 c
      refine e_push q_98 rfl ?_
      refine e_load q_98 rfl rfl rfl ?_
      refine e_push q_98 rfl ?_
      refine e_bin (r := x2 ^^^ (-1)) q_98 rfl rfl ?_
      refine e_bin (r := 65535 &&& (x2 ^^^ (-1))) q_98 rfl rfl ?_
      refine e_goto q_98 rfl ?_
      exact e_ireturn q_98 rfl rfl h
  · replace h := h.2 c
    refine e_load q_98 rfl rfl rfl ?_
    refine e_getR q_98 rfl rfl rfl ?_
    refine e_load q_98 rfl rfl rfl ?_
    refine e_virt q_98 rfl rfl (Nat.le_of_ble_eq_true rfl) rfl rfl (Nat.le_of_ble_eq_true rfl) rfl ?_
    show Ev S (d + 1) 13 0 [some (.inr (some 1)), some (.inl x3)] [] σ _
    refine e_load q_13 rfl rfl rfl ?_
    refine e_load q_13 rfl rfl rfl ?_
    refine e_virt q_13 rfl rfl (Nat.le_of_ble_eq_true rfl) rfl rfl (Nat.le_of_ble_eq_true rfl) rfl ?_
    show Ev S d 12 0 [some (.inr (some 1)), some (.inl x3)] [] σ _
    refine e_load q_12 rfl rfl rfl ?_
    refine e_getR q_12 rfl rfl rfl ?_
    refine e_push q_12 rfl ?_
    refine e_load q_12 rfl rfl rfl ?_
    refine e_bin (r := 0 + x3) q_12 rfl rfl ?_
    obtain ⟨j2, hjj2, hlj2, h⟩ := h
    refine e_iald q_12 rfl rfl (by decide) hjj2 hlj2 ?_
    refine e_push q_12 rfl ?_
    refine e_icmp (P := ¬ (σ 2 j2) = 2) q_12 rfl m_c1 (fun c => ?_) (fun c => ?_)
    · replace h := h.1 c
      refine e_push q_12 rfl ?_
      refine e_zreturn q_12 rfl rfl (by decide) ?_
      show Ev S (d + 1) 13 3 [some (.inr (some 1)), some (.inl x3)] [.inl 0] σ _
      refine e_if (P := ¬ (0 : Int32) = 0) q_13 rfl m_c1 (fun c => absurd c (by decide)) (fun _ => ?_)
      refine e_load q_13 rfl rfl rfl ?_
      refine e_push q_13 rfl ?_
      refine e_load q_13 rfl rfl rfl ?_
      refine e_virt q_13 rfl rfl (Nat.le_of_ble_eq_true rfl) rfl rfl (Nat.le_of_ble_eq_true rfl) rfl ?_
      show Ev S d 8 0 [some (.inr (some 1)), some (.inl 5), some (.inl x3)] [] σ _
      refine e_load q_8 rfl rfl rfl ?_
      refine e_getR q_8 rfl rfl rfl ?_
      refine e_load q_8 rfl rfl rfl ?_
      refine e_push q_8 rfl ?_
      refine e_bin (r := 5 * 8) q_8 rfl rfl ?_
      refine e_load q_8 rfl rfl rfl ?_
      refine e_bin (r := (5 * 8) + x3) q_8 rfl rfl ?_
      obtain ⟨j3, hjj3, hlj3, h⟩ := h
      refine e_iald q_8 rfl rfl (by decide) hjj3 hlj3 ?_
      refine e_ireturn q_8 rfl rfl ?_
      show Ev S (d + 1) 13 8 [some (.inr (some 1)), some (.inl x3)] [.inl (σ 2 j3)] σ _
      refine e_push q_13 rfl ?_
      refine e_icmp (P := (σ 2 j3) = (-1)) q_13 rfl m_c0 (fun c => ?_) (fun c => ?_)
      · replace h := h.1 c
        refine e_push q_13 rfl ?_
        refine e_zreturn q_13 rfl rfl (by decide) ?_
        show Ev S (d + 2) 98 13 [some (.inr (some 0)), some (.inl x1), some (.inl x2), some (.inl x3)] [.inl 0] σ _
        refine e_if (P := (0 : Int32) = 0) q_98 rfl m_c0 (fun _ => ?_) (fun c => absurd (by decide) c)
        refine e_iinc (ls' := [some (.inr (some 0)), some (.inl x1), some (.inl x2), some (.inl (x3 + 1))]) q_98 rfl rfl rfl ?_
        refine e_goto q_98 rfl ?_
        exact h
      · replace h := h.2 c
        refine e_push q_13 rfl ?_
        refine e_goto q_13 rfl ?_
        refine e_zreturn q_13 rfl rfl (by decide) ?_
        show Ev S (d + 2) 98 13 [some (.inr (some 0)), some (.inl x1), some (.inl x2), some (.inl x3)] [.inl 1] σ _
        refine e_if (P := (1 : Int32) = 0) q_98 rfl m_c0 (fun c => absurd c (by decide)) (fun _ => ?_)
        refine e_load q_98 rfl rfl rfl ?_
        refine e_load q_98 rfl rfl rfl ?_
        refine e_getR q_98 rfl rfl rfl ?_
        refine e_push q_98 rfl ?_
        refine e_load q_98 rfl rfl rfl ?_
        refine e_virt q_98 rfl rfl (Nat.le_of_ble_eq_true rfl) rfl rfl (Nat.le_of_ble_eq_true rfl) rfl ?_
        show Ev S (d + 1) 8 0 [some (.inr (some 1)), some (.inl 4), some (.inl x3)] [] σ _
        refine e_load q_8 rfl rfl rfl ?_
        refine e_getR q_8 rfl rfl rfl ?_
        refine e_load q_8 rfl rfl rfl ?_
        refine e_push q_8 rfl ?_
        refine e_bin (r := 4 * 8) q_8 rfl rfl ?_
        refine e_load q_8 rfl rfl rfl ?_
        refine e_bin (r := (4 * 8) + x3) q_8 rfl rfl ?_
        obtain ⟨j4, hjj4, hlj4, h⟩ := h
        refine e_iald q_8 rfl rfl (by decide) hjj4 hlj4 ?_
        refine e_ireturn q_8 rfl rfl ?_
        show Ev S (d + 2) 98 20 [some (.inr (some 0)), some (.inl x1), some (.inl x2), some (.inl x3)] [.inl (σ 2 j4), .inl x2] σ _
        refine e_bin (r := x2 ||| (σ 2 j4)) q_98 rfl rfl ?_
        refine e_store (ls' := [some (.inr (some 0)), some (.inl x1), some (.inl (x2 ||| (σ 2 j4))), some (.inl x3)]) q_98 rfl (Nat.le_of_ble_eq_true rfl) rfl rfl ?_
        refine e_iinc (ls' := [some (.inr (some 0)), some (.inl x1), some (.inl (x2 ||| (σ 2 j4))), some (.inl (x3 + 1))]) q_98 rfl rfl rfl ?_
        refine e_goto q_98 rfl ?_
        exact h
    · replace h := h.2 c
      refine e_push q_12 rfl ?_
      refine e_goto q_12 rfl ?_
      refine e_zreturn q_12 rfl rfl (by decide) ?_
      show Ev S (d + 1) 13 3 [some (.inr (some 1)), some (.inl x3)] [.inl 1] σ _
      refine e_if (P := ¬ (1 : Int32) = 0) q_13 rfl m_c1 (fun _ => ?_) (fun c => absurd (by decide) c)
      refine e_push q_13 rfl ?_
      refine e_goto q_13 rfl ?_
      refine e_zreturn q_13 rfl rfl (by decide) ?_
      show Ev S (d + 2) 98 13 [some (.inr (some 0)), some (.inl x1), some (.inl x2), some (.inl x3)] [.inl 1] σ _
      refine e_if (P := (1 : Int32) = 0) q_98 rfl m_c0 (fun c => absurd c (by decide)) (fun _ => ?_)
      refine e_load q_98 rfl rfl rfl ?_
      refine e_load q_98 rfl rfl rfl ?_
      refine e_getR q_98 rfl rfl rfl ?_
      refine e_push q_98 rfl ?_
      refine e_load q_98 rfl rfl rfl ?_
      refine e_virt q_98 rfl rfl (Nat.le_of_ble_eq_true rfl) rfl rfl (Nat.le_of_ble_eq_true rfl) rfl ?_
      show Ev S (d + 1) 8 0 [some (.inr (some 1)), some (.inl 4), some (.inl x3)] [] σ _
      refine e_load q_8 rfl rfl rfl ?_
      refine e_getR q_8 rfl rfl rfl ?_
      refine e_load q_8 rfl rfl rfl ?_
      refine e_push q_8 rfl ?_
      refine e_bin (r := 4 * 8) q_8 rfl rfl ?_
      refine e_load q_8 rfl rfl rfl ?_
      refine e_bin (r := (4 * 8) + x3) q_8 rfl rfl ?_
      obtain ⟨j5, hjj5, hlj5, h⟩ := h
      refine e_iald q_8 rfl rfl (by decide) hjj5 hlj5 ?_
      refine e_ireturn q_8 rfl rfl ?_
      show Ev S (d + 2) 98 20 [some (.inr (some 0)), some (.inl x1), some (.inl x2), some (.inl x3)] [.inl (σ 2 j5), .inl x2] σ _
      refine e_bin (r := x2 ||| (σ 2 j5)) q_98 rfl rfl ?_
      refine e_store (ls' := [some (.inr (some 0)), some (.inl x1), some (.inl (x2 ||| (σ 2 j5))), some (.inl x3)]) q_98 rfl (Nat.le_of_ble_eq_true rfl) rfl rfl ?_
      refine e_iinc (ls' := [some (.inr (some 0)), some (.inl x1), some (.inl (x2 ||| (σ 2 j5))), some (.inl (x3 + 1))]) q_98 rfl rfl rfl ?_
      refine e_goto q_98 rfl ?_
      exact h
theorem g_99_0 {S : Nat × (Nat → Int32)} {d : Nat} {σ : Mem} {Q : MQ1} {x1 : Int32}  (h : ((x1 < 0 → Q [.inl (-100001)] (up σ 0 5 ((σ 0 5) + 1))) ∧ (¬ (x1 < 0) → ((x1 ≤ 15 → Ev S (d + 2) 99 13 [some (.inr (some 0)), some (.inl x1), some (.inl (-1)), some (.inl 0)] [] σ Q) ∧ (¬ (x1 ≤ 15) → Q [.inl (-100001)] (up σ 0 5 ((σ 0 5) + 1))))))) : Ev S (d + 2) 99 0 [some (.inr (some 0)), some (.inl x1), none, none] [] σ Q := by
  refine e_load q_99 rfl rfl rfl ?_
  refine e_if (P := x1 < 0) q_99 rfl m_c2 (fun c => ?_) (fun c => ?_)
  · replace h := h.1 c
    refine e_load q_99 rfl rfl rfl ?_
    refine e_push q_99 rfl ?_
    refine e_virt q_99 rfl rfl (Nat.le_of_ble_eq_true rfl) rfl rfl (Nat.le_of_ble_eq_true rfl) rfl ?_
    show Ev S (d + 1) 105 0 [some (.inr (some 0)), some (.inl (-100001))] [] σ _
    refine e_load q_105 rfl rfl rfl ?_
    refine e_dup q_105 rfl ?_
    refine e_getI q_105 rfl rfl rfl ?_
    refine e_push q_105 rfl ?_
    refine e_bin (r := (σ 0 5) + 1) q_105 rfl rfl ?_
    refine e_putI q_105 rfl rfl rfl ?_
    refine e_load q_105 rfl rfl rfl ?_
    refine e_ireturn q_105 rfl rfl ?_
    show Ev S (d + 2) 99 8 [some (.inr (some 0)), some (.inl x1), none, none] [.inl (-100001)] (up σ 0 5 ((σ 0 5) + 1)) _
    exact e_ireturn q_99 rfl rfl h
  · replace h := h.2 c
    refine e_load q_99 rfl rfl rfl ?_
    refine e_push q_99 rfl ?_
    refine e_icmp (P := x1 ≤ 15) q_99 rfl m_c5 (fun c => ?_) (fun c => ?_)
    · replace h := h.1 c
      refine e_push q_99 rfl ?_
      refine e_store (ls' := [some (.inr (some 0)), some (.inl x1), some (.inl (-1)), none]) q_99 rfl (Nat.le_of_ble_eq_true rfl) rfl rfl ?_
      refine e_push q_99 rfl ?_
      refine e_store (ls' := [some (.inr (some 0)), some (.inl x1), some (.inl (-1)), some (.inl 0)]) q_99 rfl (Nat.le_of_ble_eq_true rfl) rfl rfl ?_
      exact h
    · replace h := h.2 c
      refine e_load q_99 rfl rfl rfl ?_
      refine e_push q_99 rfl ?_
      refine e_virt q_99 rfl rfl (Nat.le_of_ble_eq_true rfl) rfl rfl (Nat.le_of_ble_eq_true rfl) rfl ?_
      show Ev S (d + 1) 105 0 [some (.inr (some 0)), some (.inl (-100001))] [] σ _
      refine e_load q_105 rfl rfl rfl ?_
      refine e_dup q_105 rfl ?_
      refine e_getI q_105 rfl rfl rfl ?_
      refine e_push q_105 rfl ?_
      refine e_bin (r := (σ 0 5) + 1) q_105 rfl rfl ?_
      refine e_putI q_105 rfl rfl rfl ?_
      refine e_load q_105 rfl rfl rfl ?_
      refine e_ireturn q_105 rfl rfl ?_
      show Ev S (d + 2) 99 8 [some (.inr (some 0)), some (.inl x1), none, none] [.inl (-100001)] (up σ 0 5 ((σ 0 5) + 1)) _
      exact e_ireturn q_99 rfl rfl h
theorem g_99_13 {S : Nat × (Nat → Int32)} {d : Nat} {σ : Mem} {Q : MQ1} {x1 : Int32} {x2 : Int32} {x3 : Int32}  (h : (((σ 2 80) ≤ x3 → (((¬ x2 = (-1)) → Q [.inl x2] σ) ∧ (¬ (¬ x2 = (-1)) → Q [.inl (-100006)] (up σ 0 5 ((σ 0 5) + 1))))) ∧ (¬ ((σ 2 80) ≤ x3) → (∃ j2 : Nat, 0 + x3 = nI j2 ∧ j2 < 81 ∧ (((¬ (σ 2 j2) = 2) → (∃ j3 : Nat, (5 * 8) + x3 = nI j3 ∧ j3 < 81 ∧ (((σ 2 j3) = (-1) → Ev S (d + 2) 99 13 [some (.inr (some 0)), some (.inl x1), some (.inl x2), some (.inl (x3 + 1))] [] σ Q) ∧ (¬ ((σ 2 j3) = (-1)) → (∃ j4 : Nat, (4 * 8) + x3 = nI j4 ∧ j4 < 81 ∧ (((((σ 2 j4) >>> (x1 &&& 31)) &&& 1) = 0 → Ev S (d + 2) 99 13 [some (.inr (some 0)), some (.inl x1), some (.inl x2), some (.inl (x3 + 1))] [] σ Q) ∧ (¬ ((((σ 2 j4) >>> (x1 &&& 31)) &&& 1) = 0) → ((x2 = (-1) → Ev S (d + 2) 99 13 [some (.inr (some 0)), some (.inl x1), some (.inl x3), some (.inl (x3 + 1))] [] σ Q) ∧ (¬ (x2 = (-1)) → Q [.inl (-100006)] (up σ 0 5 ((σ 0 5) + 1))))))))))) ∧ (¬ (¬ (σ 2 j2) = 2) → (∃ j5 : Nat, (4 * 8) + x3 = nI j5 ∧ j5 < 81 ∧ (((((σ 2 j5) >>> (x1 &&& 31)) &&& 1) = 0 → Ev S (d + 2) 99 13 [some (.inr (some 0)), some (.inl x1), some (.inl x2), some (.inl (x3 + 1))] [] σ Q) ∧ (¬ ((((σ 2 j5) >>> (x1 &&& 31)) &&& 1) = 0) → ((x2 = (-1) → Ev S (d + 2) 99 13 [some (.inr (some 0)), some (.inl x1), some (.inl x3), some (.inl (x3 + 1))] [] σ Q) ∧ (¬ (x2 = (-1)) → Q [.inl (-100006)] (up σ 0 5 ((σ 0 5) + 1))))))))))))) : Ev S (d + 2) 99 13 [some (.inr (some 0)), some (.inl x1), some (.inl x2), some (.inl x3)] [] σ Q := by
  refine e_load q_99 rfl rfl rfl ?_
  refine e_load q_99 rfl rfl rfl ?_
  refine e_getR q_99 rfl rfl rfl ?_
  refine e_virt q_99 rfl rfl (Nat.le_of_ble_eq_true rfl) rfl rfl (Nat.le_of_ble_eq_true rfl) rfl ?_
  show Ev S (d + 1) 7 0 [some (.inr (some 1))] [] σ _
  refine e_load q_7 rfl rfl rfl ?_
  refine e_getR q_7 rfl rfl rfl ?_
  refine e_push q_7 rfl ?_
  refine e_iald (j := 80) q_7 rfl rfl (by decide) (by decide +kernel) (by decide) ?_
  refine e_ireturn q_7 rfl rfl ?_
  show Ev S (d + 2) 99 17 [some (.inr (some 0)), some (.inl x1), some (.inl x2), some (.inl x3)] [.inl (σ 2 80), .inl x3] σ _
  refine e_icmp (P := (σ 2 80) ≤ x3) q_99 rfl m_c3 (fun c => ?_) (fun c => ?_)
  · replace h := h.1 c
    refine e_load q_99 rfl rfl rfl ?_
    refine e_push q_99 rfl ?_
    refine e_icmp (P := ¬ x2 = (-1)) q_99 rfl m_c1 (fun c => ?_) (fun c => ?_)
    · replace h := h.1 c
      refine e_load q_99 rfl rfl rfl ?_
      exact e_ireturn q_99 rfl rfl h
    · replace h := h.2 c
      refine e_load q_99 rfl rfl rfl ?_
      refine e_push q_99 rfl ?_
      refine e_virt q_99 rfl rfl (Nat.le_of_ble_eq_true rfl) rfl rfl (Nat.le_of_ble_eq_true rfl) rfl ?_
      show Ev S (d + 1) 105 0 [some (.inr (some 0)), some (.inl (-100006))] [] σ _
      refine e_load q_105 rfl rfl rfl ?_
      refine e_dup q_105 rfl ?_
      refine e_getI q_105 rfl rfl rfl ?_
      refine e_push q_105 rfl ?_
      refine e_bin (r := (σ 0 5) + 1) q_105 rfl rfl ?_
      refine e_putI q_105 rfl rfl rfl ?_
      refine e_load q_105 rfl rfl rfl ?_
      refine e_ireturn q_105 rfl rfl ?_
      show Ev S (d + 2) 99 48 [some (.inr (some 0)), some (.inl x1), some (.inl x2), some (.inl x3)] [.inl (-100006)] (up σ 0 5 ((σ 0 5) + 1)) _
      refine e_goto q_99 rfl ?_
      exact e_ireturn q_99 rfl rfl h
  · replace h := h.2 c
    refine e_load q_99 rfl rfl rfl ?_
    refine e_getR q_99 rfl rfl rfl ?_
    refine e_load q_99 rfl rfl rfl ?_
    refine e_virt q_99 rfl rfl (Nat.le_of_ble_eq_true rfl) rfl rfl (Nat.le_of_ble_eq_true rfl) rfl ?_
    show Ev S (d + 1) 13 0 [some (.inr (some 1)), some (.inl x3)] [] σ _
    refine e_load q_13 rfl rfl rfl ?_
    refine e_load q_13 rfl rfl rfl ?_
    refine e_virt q_13 rfl rfl (Nat.le_of_ble_eq_true rfl) rfl rfl (Nat.le_of_ble_eq_true rfl) rfl ?_
    show Ev S d 12 0 [some (.inr (some 1)), some (.inl x3)] [] σ _
    refine e_load q_12 rfl rfl rfl ?_
    refine e_getR q_12 rfl rfl rfl ?_
    refine e_push q_12 rfl ?_
    refine e_load q_12 rfl rfl rfl ?_
    refine e_bin (r := 0 + x3) q_12 rfl rfl ?_
    obtain ⟨j2, hjj2, hlj2, h⟩ := h
    refine e_iald q_12 rfl rfl (by decide) hjj2 hlj2 ?_
    refine e_push q_12 rfl ?_
    refine e_icmp (P := ¬ (σ 2 j2) = 2) q_12 rfl m_c1 (fun c => ?_) (fun c => ?_)
    · replace h := h.1 c
      refine e_push q_12 rfl ?_
      refine e_zreturn q_12 rfl rfl (by decide) ?_
      show Ev S (d + 1) 13 3 [some (.inr (some 1)), some (.inl x3)] [.inl 0] σ _
      refine e_if (P := ¬ (0 : Int32) = 0) q_13 rfl m_c1 (fun c => absurd c (by decide)) (fun _ => ?_)
      refine e_load q_13 rfl rfl rfl ?_
      refine e_push q_13 rfl ?_
      refine e_load q_13 rfl rfl rfl ?_
      refine e_virt q_13 rfl rfl (Nat.le_of_ble_eq_true rfl) rfl rfl (Nat.le_of_ble_eq_true rfl) rfl ?_
      show Ev S d 8 0 [some (.inr (some 1)), some (.inl 5), some (.inl x3)] [] σ _
      refine e_load q_8 rfl rfl rfl ?_
      refine e_getR q_8 rfl rfl rfl ?_
      refine e_load q_8 rfl rfl rfl ?_
      refine e_push q_8 rfl ?_
      refine e_bin (r := 5 * 8) q_8 rfl rfl ?_
      refine e_load q_8 rfl rfl rfl ?_
      refine e_bin (r := (5 * 8) + x3) q_8 rfl rfl ?_
      obtain ⟨j3, hjj3, hlj3, h⟩ := h
      refine e_iald q_8 rfl rfl (by decide) hjj3 hlj3 ?_
      refine e_ireturn q_8 rfl rfl ?_
      show Ev S (d + 1) 13 8 [some (.inr (some 1)), some (.inl x3)] [.inl (σ 2 j3)] σ _
      refine e_push q_13 rfl ?_
      refine e_icmp (P := (σ 2 j3) = (-1)) q_13 rfl m_c0 (fun c => ?_) (fun c => ?_)
      · replace h := h.1 c
        refine e_push q_13 rfl ?_
        refine e_zreturn q_13 rfl rfl (by decide) ?_
        show Ev S (d + 2) 99 22 [some (.inr (some 0)), some (.inl x1), some (.inl x2), some (.inl x3)] [.inl 0] σ _
        refine e_if (P := (0 : Int32) = 0) q_99 rfl m_c0 (fun _ => ?_) (fun c => absurd (by decide) c)
        refine e_iinc (ls' := [some (.inr (some 0)), some (.inl x1), some (.inl x2), some (.inl (x3 + 1))]) q_99 rfl rfl rfl ?_
        refine e_goto q_99 rfl ?_
        exact h
      · replace h := h.2 c
        refine e_push q_13 rfl ?_
        refine e_goto q_13 rfl ?_
        refine e_zreturn q_13 rfl rfl (by decide) ?_
        show Ev S (d + 2) 99 22 [some (.inr (some 0)), some (.inl x1), some (.inl x2), some (.inl x3)] [.inl 1] σ _
        refine e_if (P := (1 : Int32) = 0) q_99 rfl m_c0 (fun c => absurd c (by decide)) (fun _ => ?_)
        refine e_load q_99 rfl rfl rfl ?_
        refine e_getR q_99 rfl rfl rfl ?_
        refine e_push q_99 rfl ?_
        refine e_load q_99 rfl rfl rfl ?_
        refine e_virt q_99 rfl rfl (Nat.le_of_ble_eq_true rfl) rfl rfl (Nat.le_of_ble_eq_true rfl) rfl ?_
        show Ev S (d + 1) 8 0 [some (.inr (some 1)), some (.inl 4), some (.inl x3)] [] σ _
        refine e_load q_8 rfl rfl rfl ?_
        refine e_getR q_8 rfl rfl rfl ?_
        refine e_load q_8 rfl rfl rfl ?_
        refine e_push q_8 rfl ?_
        refine e_bin (r := 4 * 8) q_8 rfl rfl ?_
        refine e_load q_8 rfl rfl rfl ?_
        refine e_bin (r := (4 * 8) + x3) q_8 rfl rfl ?_
        obtain ⟨j4, hjj4, hlj4, h⟩ := h
        refine e_iald q_8 rfl rfl (by decide) hjj4 hlj4 ?_
        refine e_ireturn q_8 rfl rfl ?_
        show Ev S (d + 2) 99 28 [some (.inr (some 0)), some (.inl x1), some (.inl x2), some (.inl x3)] [.inl (σ 2 j4)] σ _
        refine e_load q_99 rfl rfl rfl ?_
        refine e_stat q_99 rfl (Nat.le_of_ble_eq_true rfl) rfl rfl (Nat.le_of_ble_eq_true rfl) ?_
        show Ev S (d + 1) 110 0 [some (.inl (σ 2 j4)), some (.inl x1)] [] σ _
        refine e_load q_110 rfl rfl rfl ?_
        refine e_load q_110 rfl rfl rfl ?_
        refine e_bin (r := (σ 2 j4) >>> (x1 &&& 31)) q_110 rfl rfl ?_
        refine e_push q_110 rfl ?_
        refine e_bin (r := ((σ 2 j4) >>> (x1 &&& 31)) &&& 1) q_110 rfl rfl ?_
        refine e_if (P := (((σ 2 j4) >>> (x1 &&& 31)) &&& 1) = 0) q_110 rfl m_c0 (fun c => ?_) (fun c => ?_)
        · replace h := h.1 c
          refine e_push q_110 rfl ?_
          refine e_zreturn q_110 rfl rfl (by decide) ?_
          show Ev S (d + 2) 99 30 [some (.inr (some 0)), some (.inl x1), some (.inl x2), some (.inl x3)] [.inl 0] σ _
          refine e_if (P := (0 : Int32) = 0) q_99 rfl m_c0 (fun _ => ?_) (fun c => absurd (by decide) c)
          refine e_iinc (ls' := [some (.inr (some 0)), some (.inl x1), some (.inl x2), some (.inl (x3 + 1))]) q_99 rfl rfl rfl ?_
          refine e_goto q_99 rfl ?_
          exact h
        · replace h := h.2 c
          refine e_push q_110 rfl ?_
          refine e_goto q_110 rfl ?_
          refine e_zreturn q_110 rfl rfl (by decide) ?_
          show Ev S (d + 2) 99 30 [some (.inr (some 0)), some (.inl x1), some (.inl x2), some (.inl x3)] [.inl 1] σ _
          refine e_if (P := (1 : Int32) = 0) q_99 rfl m_c0 (fun c => absurd c (by decide)) (fun _ => ?_)
          refine e_load q_99 rfl rfl rfl ?_
          refine e_push q_99 rfl ?_
          refine e_icmp (P := x2 = (-1)) q_99 rfl m_c0 (fun c => ?_) (fun c => ?_)
          · replace h := h.1 c
            refine e_load q_99 rfl rfl rfl ?_
            refine e_store (ls' := [some (.inr (some 0)), some (.inl x1), some (.inl x3), some (.inl x3)]) q_99 rfl (Nat.le_of_ble_eq_true rfl) rfl rfl ?_
            refine e_iinc (ls' := [some (.inr (some 0)), some (.inl x1), some (.inl x3), some (.inl (x3 + 1))]) q_99 rfl rfl rfl ?_
            refine e_goto q_99 rfl ?_
            exact h
          · replace h := h.2 c
            refine e_load q_99 rfl rfl rfl ?_
            refine e_push q_99 rfl ?_
            refine e_virt q_99 rfl rfl (Nat.le_of_ble_eq_true rfl) rfl rfl (Nat.le_of_ble_eq_true rfl) rfl ?_
            show Ev S (d + 1) 105 0 [some (.inr (some 0)), some (.inl (-100006))] [] σ _
            refine e_load q_105 rfl rfl rfl ?_
            refine e_dup q_105 rfl ?_
            refine e_getI q_105 rfl rfl rfl ?_
            refine e_push q_105 rfl ?_
            refine e_bin (r := (σ 0 5) + 1) q_105 rfl rfl ?_
            refine e_putI q_105 rfl rfl rfl ?_
            refine e_load q_105 rfl rfl rfl ?_
            refine e_ireturn q_105 rfl rfl ?_
            show Ev S (d + 2) 99 37 [some (.inr (some 0)), some (.inl x1), some (.inl x2), some (.inl x3)] [.inl (-100006)] (up σ 0 5 ((σ 0 5) + 1)) _
            exact e_ireturn q_99 rfl rfl h
    · replace h := h.2 c
      refine e_push q_12 rfl ?_
      refine e_goto q_12 rfl ?_
      refine e_zreturn q_12 rfl rfl (by decide) ?_
      show Ev S (d + 1) 13 3 [some (.inr (some 1)), some (.inl x3)] [.inl 1] σ _
      refine e_if (P := ¬ (1 : Int32) = 0) q_13 rfl m_c1 (fun _ => ?_) (fun c => absurd (by decide) c)
      refine e_push q_13 rfl ?_
      refine e_goto q_13 rfl ?_
      refine e_zreturn q_13 rfl rfl (by decide) ?_
      show Ev S (d + 2) 99 22 [some (.inr (some 0)), some (.inl x1), some (.inl x2), some (.inl x3)] [.inl 1] σ _
      refine e_if (P := (1 : Int32) = 0) q_99 rfl m_c0 (fun c => absurd c (by decide)) (fun _ => ?_)
      refine e_load q_99 rfl rfl rfl ?_
      refine e_getR q_99 rfl rfl rfl ?_
      refine e_push q_99 rfl ?_
      refine e_load q_99 rfl rfl rfl ?_
      refine e_virt q_99 rfl rfl (Nat.le_of_ble_eq_true rfl) rfl rfl (Nat.le_of_ble_eq_true rfl) rfl ?_
      show Ev S (d + 1) 8 0 [some (.inr (some 1)), some (.inl 4), some (.inl x3)] [] σ _
      refine e_load q_8 rfl rfl rfl ?_
      refine e_getR q_8 rfl rfl rfl ?_
      refine e_load q_8 rfl rfl rfl ?_
      refine e_push q_8 rfl ?_
      refine e_bin (r := 4 * 8) q_8 rfl rfl ?_
      refine e_load q_8 rfl rfl rfl ?_
      refine e_bin (r := (4 * 8) + x3) q_8 rfl rfl ?_
      obtain ⟨j5, hjj5, hlj5, h⟩ := h
      refine e_iald q_8 rfl rfl (by decide) hjj5 hlj5 ?_
      refine e_ireturn q_8 rfl rfl ?_
      show Ev S (d + 2) 99 28 [some (.inr (some 0)), some (.inl x1), some (.inl x2), some (.inl x3)] [.inl (σ 2 j5)] σ _
      refine e_load q_99 rfl rfl rfl ?_
      refine e_stat q_99 rfl (Nat.le_of_ble_eq_true rfl) rfl rfl (Nat.le_of_ble_eq_true rfl) ?_
      show Ev S (d + 1) 110 0 [some (.inl (σ 2 j5)), some (.inl x1)] [] σ _
      refine e_load q_110 rfl rfl rfl ?_
      refine e_load q_110 rfl rfl rfl ?_
      refine e_bin (r := (σ 2 j5) >>> (x1 &&& 31)) q_110 rfl rfl ?_
      refine e_push q_110 rfl ?_
      refine e_bin (r := ((σ 2 j5) >>> (x1 &&& 31)) &&& 1) q_110 rfl rfl ?_
      refine e_if (P := (((σ 2 j5) >>> (x1 &&& 31)) &&& 1) = 0) q_110 rfl m_c0 (fun c => ?_) (fun c => ?_)
      · replace h := h.1 c
        refine e_push q_110 rfl ?_
        refine e_zreturn q_110 rfl rfl (by decide) ?_
        show Ev S (d + 2) 99 30 [some (.inr (some 0)), some (.inl x1), some (.inl x2), some (.inl x3)] [.inl 0] σ _
        refine e_if (P := (0 : Int32) = 0) q_99 rfl m_c0 (fun _ => ?_) (fun c => absurd (by decide) c)
        refine e_iinc (ls' := [some (.inr (some 0)), some (.inl x1), some (.inl x2), some (.inl (x3 + 1))]) q_99 rfl rfl rfl ?_
        refine e_goto q_99 rfl ?_
        exact h
      · replace h := h.2 c
        refine e_push q_110 rfl ?_
        refine e_goto q_110 rfl ?_
        refine e_zreturn q_110 rfl rfl (by decide) ?_
        show Ev S (d + 2) 99 30 [some (.inr (some 0)), some (.inl x1), some (.inl x2), some (.inl x3)] [.inl 1] σ _
        refine e_if (P := (1 : Int32) = 0) q_99 rfl m_c0 (fun c => absurd c (by decide)) (fun _ => ?_)
        refine e_load q_99 rfl rfl rfl ?_
        refine e_push q_99 rfl ?_
        refine e_icmp (P := x2 = (-1)) q_99 rfl m_c0 (fun c => ?_) (fun c => ?_)
        · replace h := h.1 c
          refine e_load q_99 rfl rfl rfl ?_
          refine e_store (ls' := [some (.inr (some 0)), some (.inl x1), some (.inl x3), some (.inl x3)]) q_99 rfl (Nat.le_of_ble_eq_true rfl) rfl rfl ?_
          refine e_iinc (ls' := [some (.inr (some 0)), some (.inl x1), some (.inl x3), some (.inl (x3 + 1))]) q_99 rfl rfl rfl ?_
          refine e_goto q_99 rfl ?_
          exact h
        · replace h := h.2 c
          refine e_load q_99 rfl rfl rfl ?_
          refine e_push q_99 rfl ?_
          refine e_virt q_99 rfl rfl (Nat.le_of_ble_eq_true rfl) rfl rfl (Nat.le_of_ble_eq_true rfl) rfl ?_
          show Ev S (d + 1) 105 0 [some (.inr (some 0)), some (.inl (-100006))] [] σ _
          refine e_load q_105 rfl rfl rfl ?_
          refine e_dup q_105 rfl ?_
          refine e_getI q_105 rfl rfl rfl ?_
          refine e_push q_105 rfl ?_
          refine e_bin (r := (σ 0 5) + 1) q_105 rfl rfl ?_
          refine e_putI q_105 rfl rfl rfl ?_
          refine e_load q_105 rfl rfl rfl ?_
          refine e_ireturn q_105 rfl rfl ?_
          show Ev S (d + 2) 99 37 [some (.inr (some 0)), some (.inl x1), some (.inl x2), some (.inl x3)] [.inl (-100006)] (up σ 0 5 ((σ 0 5) + 1)) _
          exact e_ireturn q_99 rfl rfl h
theorem g_100_0 {S : Nat × (Nat → Int32)} {d : Nat} {σ : Mem} {Q : MQ1} {x1 : Int32} {x2 : Int32}  (h : ((x1 < 0 → Q [.inl (-100001)] (up σ 0 5 ((σ 0 5) + 1))) ∧ (¬ (x1 < 0) → ((x1 < (σ 2 80) → ((x2 < 1 → Q [.inl (-100001)] (up σ 0 5 ((σ 0 5) + 1))) ∧ (¬ (x2 < 1) → ((x2 ≤ 100 → (∃ j2 : Nat, (7 * 8) + x1 = nI j2 ∧ j2 < 81 ∧ ((((σ 2 j2) + x2) ≤ 1000 → Ec S (d + 3) 112 [.inr (some 0), .inl 7, .inl x1, .inl ((σ 2 j2) + x2)] σ (fun rv σ' => Ev S (d + 4) 100 34 [some (.inr (some 0)), some (.inl x1), some (.inl x2), some (.inl ((σ 2 j2) + x2))] (rv ++ []) σ' Q)) ∧ (¬ (((σ 2 j2) + x2) ≤ 1000) → Q [.inl (-100005)] (up σ 0 5 ((σ 0 5) + 1)))))) ∧ (¬ (x2 ≤ 100) → Q [.inl (-100001)] (up σ 0 5 ((σ 0 5) + 1))))))) ∧ (¬ (x1 < (σ 2 80)) → Q [.inl (-100001)] (up σ 0 5 ((σ 0 5) + 1))))))) : Ev S (d + 4) 100 0 [some (.inr (some 0)), some (.inl x1), some (.inl x2), none] [] σ Q := by
  refine e_load q_100 rfl rfl rfl ?_
  refine e_load q_100 rfl rfl rfl ?_
  refine e_virt q_100 rfl rfl (Nat.le_of_ble_eq_true rfl) rfl rfl (Nat.le_of_ble_eq_true rfl) rfl ?_
  show Ev S (d + 3) 106 0 [some (.inr (some 0)), some (.inl x1)] [] σ _
  refine e_load q_106 rfl rfl rfl ?_
  refine e_if (P := x1 < 0) q_106 rfl m_c2 (fun c => ?_) (fun c => ?_)
  · replace h := h.1 c
    refine e_push q_106 rfl ?_
    refine e_goto q_106 rfl ?_
    refine e_zreturn q_106 rfl rfl (by decide) ?_
    show Ev S (d + 4) 100 3 [some (.inr (some 0)), some (.inl x1), some (.inl x2), none] [.inl 1] σ _
    refine e_if (P := ¬ (1 : Int32) = 0) q_100 rfl m_c1 (fun _ => ?_) (fun c => absurd (by decide) c)
    refine e_load q_100 rfl rfl rfl ?_
    refine e_push q_100 rfl ?_
    refine e_virt q_100 rfl rfl (Nat.le_of_ble_eq_true rfl) rfl rfl (Nat.le_of_ble_eq_true rfl) rfl ?_
    show Ev S (d + 3) 105 0 [some (.inr (some 0)), some (.inl (-100001))] [] σ _
    refine e_load q_105 rfl rfl rfl ?_
    refine e_dup q_105 rfl ?_
    refine e_getI q_105 rfl rfl rfl ?_
    refine e_push q_105 rfl ?_
    refine e_bin (r := (σ 0 5) + 1) q_105 rfl rfl ?_
    refine e_putI q_105 rfl rfl rfl ?_
    refine e_load q_105 rfl rfl rfl ?_
    refine e_ireturn q_105 rfl rfl ?_
    show Ev S (d + 4) 100 13 [some (.inr (some 0)), some (.inl x1), some (.inl x2), none] [.inl (-100001)] (up σ 0 5 ((σ 0 5) + 1)) _
    exact e_ireturn q_100 rfl rfl h
  · replace h := h.2 c
    refine e_load q_106 rfl rfl rfl ?_
    refine e_load q_106 rfl rfl rfl ?_
    refine e_getR q_106 rfl rfl rfl ?_
    refine e_virt q_106 rfl rfl (Nat.le_of_ble_eq_true rfl) rfl rfl (Nat.le_of_ble_eq_true rfl) rfl ?_
    show Ev S (d + 2) 7 0 [some (.inr (some 1))] [] σ _
    refine e_load q_7 rfl rfl rfl ?_
    refine e_getR q_7 rfl rfl rfl ?_
    refine e_push q_7 rfl ?_
    refine e_iald (j := 80) q_7 rfl rfl (by decide) (by decide +kernel) (by decide) ?_
    refine e_ireturn q_7 rfl rfl ?_
    show Ev S (d + 3) 106 6 [some (.inr (some 0)), some (.inl x1)] [.inl (σ 2 80), .inl x1] σ _
    refine e_icmp (P := x1 < (σ 2 80)) q_106 rfl m_c2 (fun c => ?_) (fun c => ?_)
    · replace h := h.1 c
      refine e_push q_106 rfl ?_
      refine e_zreturn q_106 rfl rfl (by decide) ?_
      show Ev S (d + 4) 100 3 [some (.inr (some 0)), some (.inl x1), some (.inl x2), none] [.inl 0] σ _
      refine e_if (P := ¬ (0 : Int32) = 0) q_100 rfl m_c1 (fun c => absurd c (by decide)) (fun _ => ?_)
      refine e_load q_100 rfl rfl rfl ?_
      refine e_push q_100 rfl ?_
      refine e_icmp (P := x2 < 1) q_100 rfl m_c2 (fun c => ?_) (fun c => ?_)
      · replace h := h.1 c
        refine e_load q_100 rfl rfl rfl ?_
        refine e_push q_100 rfl ?_
        refine e_virt q_100 rfl rfl (Nat.le_of_ble_eq_true rfl) rfl rfl (Nat.le_of_ble_eq_true rfl) rfl ?_
        show Ev S (d + 3) 105 0 [some (.inr (some 0)), some (.inl (-100001))] [] σ _
        refine e_load q_105 rfl rfl rfl ?_
        refine e_dup q_105 rfl ?_
        refine e_getI q_105 rfl rfl rfl ?_
        refine e_push q_105 rfl ?_
        refine e_bin (r := (σ 0 5) + 1) q_105 rfl rfl ?_
        refine e_putI q_105 rfl rfl rfl ?_
        refine e_load q_105 rfl rfl rfl ?_
        refine e_ireturn q_105 rfl rfl ?_
        show Ev S (d + 4) 100 13 [some (.inr (some 0)), some (.inl x1), some (.inl x2), none] [.inl (-100001)] (up σ 0 5 ((σ 0 5) + 1)) _
        exact e_ireturn q_100 rfl rfl h
      · replace h := h.2 c
        refine e_load q_100 rfl rfl rfl ?_
        refine e_push q_100 rfl ?_
        refine e_icmp (P := x2 ≤ 100) q_100 rfl m_c5 (fun c => ?_) (fun c => ?_)
        · replace h := h.1 c
          refine e_load q_100 rfl rfl rfl ?_
          refine e_getR q_100 rfl rfl rfl ?_
          refine e_push q_100 rfl ?_
          refine e_load q_100 rfl rfl rfl ?_
          refine e_virt q_100 rfl rfl (Nat.le_of_ble_eq_true rfl) rfl rfl (Nat.le_of_ble_eq_true rfl) rfl ?_
          show Ev S (d + 3) 8 0 [some (.inr (some 1)), some (.inl 7), some (.inl x1)] [] σ _
          refine e_load q_8 rfl rfl rfl ?_
          refine e_getR q_8 rfl rfl rfl ?_
          refine e_load q_8 rfl rfl rfl ?_
          refine e_push q_8 rfl ?_
          refine e_bin (r := 7 * 8) q_8 rfl rfl ?_
          refine e_load q_8 rfl rfl rfl ?_
          refine e_bin (r := (7 * 8) + x1) q_8 rfl rfl ?_
          obtain ⟨j2, hjj2, hlj2, h⟩ := h
          refine e_iald q_8 rfl rfl (by decide) hjj2 hlj2 ?_
          refine e_ireturn q_8 rfl rfl ?_
          show Ev S (d + 4) 100 19 [some (.inr (some 0)), some (.inl x1), some (.inl x2), none] [.inl (σ 2 j2)] σ _
          refine e_load q_100 rfl rfl rfl ?_
          refine e_bin (r := (σ 2 j2) + x2) q_100 rfl rfl ?_
          refine e_store (ls' := [some (.inr (some 0)), some (.inl x1), some (.inl x2), some (.inl ((σ 2 j2) + x2))]) q_100 rfl (Nat.le_of_ble_eq_true rfl) rfl rfl ?_
          refine e_load q_100 rfl rfl rfl ?_
          refine e_push q_100 rfl ?_
          refine e_icmp (P := ((σ 2 j2) + x2) ≤ 1000) q_100 rfl m_c5 (fun c => ?_) (fun c => ?_)
          · replace h := h.1 c
            refine e_load q_100 rfl rfl rfl ?_
            refine e_push q_100 rfl ?_
            refine e_load q_100 rfl rfl rfl ?_
            refine e_load q_100 rfl rfl rfl ?_
            exact e_virt q_100 rfl rfl (Nat.le_of_ble_eq_true rfl) rfl rfl (Nat.le_of_ble_eq_true rfl) rfl h
          · replace h := h.2 c
            refine e_load q_100 rfl rfl rfl ?_
            refine e_push q_100 rfl ?_
            refine e_virt q_100 rfl rfl (Nat.le_of_ble_eq_true rfl) rfl rfl (Nat.le_of_ble_eq_true rfl) rfl ?_
            show Ev S (d + 3) 105 0 [some (.inr (some 0)), some (.inl (-100005))] [] σ _
            refine e_load q_105 rfl rfl rfl ?_
            refine e_dup q_105 rfl ?_
            refine e_getI q_105 rfl rfl rfl ?_
            refine e_push q_105 rfl ?_
            refine e_bin (r := (σ 0 5) + 1) q_105 rfl rfl ?_
            refine e_putI q_105 rfl rfl rfl ?_
            refine e_load q_105 rfl rfl rfl ?_
            refine e_ireturn q_105 rfl rfl ?_
            show Ev S (d + 4) 100 28 [some (.inr (some 0)), some (.inl x1), some (.inl x2), some (.inl ((σ 2 j2) + x2))] [.inl (-100005)] (up σ 0 5 ((σ 0 5) + 1)) _
            exact e_ireturn q_100 rfl rfl h
        · replace h := h.2 c
          refine e_load q_100 rfl rfl rfl ?_
          refine e_push q_100 rfl ?_
          refine e_virt q_100 rfl rfl (Nat.le_of_ble_eq_true rfl) rfl rfl (Nat.le_of_ble_eq_true rfl) rfl ?_
          show Ev S (d + 3) 105 0 [some (.inr (some 0)), some (.inl (-100001))] [] σ _
          refine e_load q_105 rfl rfl rfl ?_
          refine e_dup q_105 rfl ?_
          refine e_getI q_105 rfl rfl rfl ?_
          refine e_push q_105 rfl ?_
          refine e_bin (r := (σ 0 5) + 1) q_105 rfl rfl ?_
          refine e_putI q_105 rfl rfl rfl ?_
          refine e_load q_105 rfl rfl rfl ?_
          refine e_ireturn q_105 rfl rfl ?_
          show Ev S (d + 4) 100 13 [some (.inr (some 0)), some (.inl x1), some (.inl x2), none] [.inl (-100001)] (up σ 0 5 ((σ 0 5) + 1)) _
          exact e_ireturn q_100 rfl rfl h
    · replace h := h.2 c
      refine e_push q_106 rfl ?_
      refine e_goto q_106 rfl ?_
      refine e_zreturn q_106 rfl rfl (by decide) ?_
      show Ev S (d + 4) 100 3 [some (.inr (some 0)), some (.inl x1), some (.inl x2), none] [.inl 1] σ _
      refine e_if (P := ¬ (1 : Int32) = 0) q_100 rfl m_c1 (fun _ => ?_) (fun c => absurd (by decide) c)
      refine e_load q_100 rfl rfl rfl ?_
      refine e_push q_100 rfl ?_
      refine e_virt q_100 rfl rfl (Nat.le_of_ble_eq_true rfl) rfl rfl (Nat.le_of_ble_eq_true rfl) rfl ?_
      show Ev S (d + 3) 105 0 [some (.inr (some 0)), some (.inl (-100001))] [] σ _
      refine e_load q_105 rfl rfl rfl ?_
      refine e_dup q_105 rfl ?_
      refine e_getI q_105 rfl rfl rfl ?_
      refine e_push q_105 rfl ?_
      refine e_bin (r := (σ 0 5) + 1) q_105 rfl rfl ?_
      refine e_putI q_105 rfl rfl rfl ?_
      refine e_load q_105 rfl rfl rfl ?_
      refine e_ireturn q_105 rfl rfl ?_
      show Ev S (d + 4) 100 13 [some (.inr (some 0)), some (.inl x1), some (.inl x2), none] [.inl (-100001)] (up σ 0 5 ((σ 0 5) + 1)) _
      exact e_ireturn q_100 rfl rfl h
theorem g_100_34 {S : Nat × (Nat → Int32)} {d : Nat} {σ : Mem} {Q : MQ1} {o0 : Option MV} {o1 : Option MV} {o2 : Option MV} {x3 : Int32} {y0 : Int32}  (h : Q [.inl x3] σ) : Ev S (d + 4) 100 34 [o0, o1, o2, some (.inl x3)] [.inl y0] σ Q := by
  refine e_pop q_100 rfl ?_
  refine e_load q_100 rfl rfl rfl ?_
  exact e_ireturn q_100 rfl rfl h
theorem g_101_0 {S : Nat × (Nat → Int32)} {d : Nat} {σ : Mem} {Q : MQ1} {x1 : Int32} {x2 : Int32}  (h : ((x1 < 0 → Q [.inl (-100001)] (up σ 0 5 ((σ 0 5) + 1))) ∧ (¬ (x1 < 0) → ((x1 < (σ 2 80) → ((x2 < 0 → Q [.inl (-100001)] (up σ 0 5 ((σ 0 5) + 1))) ∧ (¬ (x2 < 0) → ((x2 < 6 → Ec S (d + 3) 116 [.inr (some 0), .inl x1, .inl x2] σ (fun rv σ' => Ev S (d + 4) 101 15 [some (.inr (some 0)), some (.inl x1), some (.inl x2)] (rv ++ []) σ' Q)) ∧ (¬ (x2 < 6) → Q [.inl (-100001)] (up σ 0 5 ((σ 0 5) + 1))))))) ∧ (¬ (x1 < (σ 2 80)) → Q [.inl (-100001)] (up σ 0 5 ((σ 0 5) + 1))))))) : Ev S (d + 4) 101 0 [some (.inr (some 0)), some (.inl x1), some (.inl x2)] [] σ Q := by
  refine e_load q_101 rfl rfl rfl ?_
  refine e_load q_101 rfl rfl rfl ?_
  refine e_virt q_101 rfl rfl (Nat.le_of_ble_eq_true rfl) rfl rfl (Nat.le_of_ble_eq_true rfl) rfl ?_
  show Ev S (d + 3) 106 0 [some (.inr (some 0)), some (.inl x1)] [] σ _
  refine e_load q_106 rfl rfl rfl ?_
  refine e_if (P := x1 < 0) q_106 rfl m_c2 (fun c => ?_) (fun c => ?_)
  · replace h := h.1 c
    refine e_push q_106 rfl ?_
    refine e_goto q_106 rfl ?_
    refine e_zreturn q_106 rfl rfl (by decide) ?_
    show Ev S (d + 4) 101 3 [some (.inr (some 0)), some (.inl x1), some (.inl x2)] [.inl 1] σ _
    refine e_if (P := ¬ (1 : Int32) = 0) q_101 rfl m_c1 (fun _ => ?_) (fun c => absurd (by decide) c)
    refine e_load q_101 rfl rfl rfl ?_
    refine e_push q_101 rfl ?_
    refine e_virt q_101 rfl rfl (Nat.le_of_ble_eq_true rfl) rfl rfl (Nat.le_of_ble_eq_true rfl) rfl ?_
    show Ev S (d + 3) 105 0 [some (.inr (some 0)), some (.inl (-100001))] [] σ _
    refine e_load q_105 rfl rfl rfl ?_
    refine e_dup q_105 rfl ?_
    refine e_getI q_105 rfl rfl rfl ?_
    refine e_push q_105 rfl ?_
    refine e_bin (r := (σ 0 5) + 1) q_105 rfl rfl ?_
    refine e_putI q_105 rfl rfl rfl ?_
    refine e_load q_105 rfl rfl rfl ?_
    refine e_ireturn q_105 rfl rfl ?_
    show Ev S (d + 4) 101 10 [some (.inr (some 0)), some (.inl x1), some (.inl x2)] [.inl (-100001)] (up σ 0 5 ((σ 0 5) + 1)) _
    exact e_ireturn q_101 rfl rfl h
  · replace h := h.2 c
    refine e_load q_106 rfl rfl rfl ?_
    refine e_load q_106 rfl rfl rfl ?_
    refine e_getR q_106 rfl rfl rfl ?_
    refine e_virt q_106 rfl rfl (Nat.le_of_ble_eq_true rfl) rfl rfl (Nat.le_of_ble_eq_true rfl) rfl ?_
    show Ev S (d + 2) 7 0 [some (.inr (some 1))] [] σ _
    refine e_load q_7 rfl rfl rfl ?_
    refine e_getR q_7 rfl rfl rfl ?_
    refine e_push q_7 rfl ?_
    refine e_iald (j := 80) q_7 rfl rfl (by decide) (by decide +kernel) (by decide) ?_
    refine e_ireturn q_7 rfl rfl ?_
    show Ev S (d + 3) 106 6 [some (.inr (some 0)), some (.inl x1)] [.inl (σ 2 80), .inl x1] σ _
    refine e_icmp (P := x1 < (σ 2 80)) q_106 rfl m_c2 (fun c => ?_) (fun c => ?_)
    · replace h := h.1 c
      refine e_push q_106 rfl ?_
      refine e_zreturn q_106 rfl rfl (by decide) ?_
      show Ev S (d + 4) 101 3 [some (.inr (some 0)), some (.inl x1), some (.inl x2)] [.inl 0] σ _
      refine e_if (P := ¬ (0 : Int32) = 0) q_101 rfl m_c1 (fun c => absurd c (by decide)) (fun _ => ?_)
      refine e_load q_101 rfl rfl rfl ?_
      refine e_stat q_101 rfl (Nat.le_of_ble_eq_true rfl) rfl rfl (Nat.le_of_ble_eq_true rfl) ?_
      show Ev S (d + 3) 108 0 [some (.inl x2)] [] σ _
      refine e_load q_108 rfl rfl rfl ?_
      refine e_if (P := x2 < 0) q_108 rfl m_c2 (fun c => ?_) (fun c => ?_)
      · replace h := h.1 c
        refine e_push q_108 rfl ?_
        refine e_goto q_108 rfl ?_
        refine e_zreturn q_108 rfl rfl (by decide) ?_
        show Ev S (d + 4) 101 6 [some (.inr (some 0)), some (.inl x1), some (.inl x2)] [.inl 1] σ _
        refine e_if (P := (1 : Int32) = 0) q_101 rfl m_c0 (fun c => absurd c (by decide)) (fun _ => ?_)
        refine e_load q_101 rfl rfl rfl ?_
        refine e_push q_101 rfl ?_
        refine e_virt q_101 rfl rfl (Nat.le_of_ble_eq_true rfl) rfl rfl (Nat.le_of_ble_eq_true rfl) rfl ?_
        show Ev S (d + 3) 105 0 [some (.inr (some 0)), some (.inl (-100001))] [] σ _
        refine e_load q_105 rfl rfl rfl ?_
        refine e_dup q_105 rfl ?_
        refine e_getI q_105 rfl rfl rfl ?_
        refine e_push q_105 rfl ?_
        refine e_bin (r := (σ 0 5) + 1) q_105 rfl rfl ?_
        refine e_putI q_105 rfl rfl rfl ?_
        refine e_load q_105 rfl rfl rfl ?_
        refine e_ireturn q_105 rfl rfl ?_
        show Ev S (d + 4) 101 10 [some (.inr (some 0)), some (.inl x1), some (.inl x2)] [.inl (-100001)] (up σ 0 5 ((σ 0 5) + 1)) _
        exact e_ireturn q_101 rfl rfl h
      · replace h := h.2 c
        refine e_load q_108 rfl rfl rfl ?_
        refine e_push q_108 rfl ?_
        refine e_icmp (P := x2 < 6) q_108 rfl m_c2 (fun c => ?_) (fun c => ?_)
        · replace h := h.1 c
          refine e_push q_108 rfl ?_
          refine e_zreturn q_108 rfl rfl (by decide) ?_
          show Ev S (d + 4) 101 6 [some (.inr (some 0)), some (.inl x1), some (.inl x2)] [.inl 0] σ _
          refine e_if (P := (0 : Int32) = 0) q_101 rfl m_c0 (fun _ => ?_) (fun c => absurd (by decide) c)
          refine e_load q_101 rfl rfl rfl ?_
          refine e_load q_101 rfl rfl rfl ?_
          refine e_load q_101 rfl rfl rfl ?_
          exact e_virt q_101 rfl rfl (Nat.le_of_ble_eq_true rfl) rfl rfl (Nat.le_of_ble_eq_true rfl) rfl h
        · replace h := h.2 c
          refine e_push q_108 rfl ?_
          refine e_goto q_108 rfl ?_
          refine e_zreturn q_108 rfl rfl (by decide) ?_
          show Ev S (d + 4) 101 6 [some (.inr (some 0)), some (.inl x1), some (.inl x2)] [.inl 1] σ _
          refine e_if (P := (1 : Int32) = 0) q_101 rfl m_c0 (fun c => absurd c (by decide)) (fun _ => ?_)
          refine e_load q_101 rfl rfl rfl ?_
          refine e_push q_101 rfl ?_
          refine e_virt q_101 rfl rfl (Nat.le_of_ble_eq_true rfl) rfl rfl (Nat.le_of_ble_eq_true rfl) rfl ?_
          show Ev S (d + 3) 105 0 [some (.inr (some 0)), some (.inl (-100001))] [] σ _
          refine e_load q_105 rfl rfl rfl ?_
          refine e_dup q_105 rfl ?_
          refine e_getI q_105 rfl rfl rfl ?_
          refine e_push q_105 rfl ?_
          refine e_bin (r := (σ 0 5) + 1) q_105 rfl rfl ?_
          refine e_putI q_105 rfl rfl rfl ?_
          refine e_load q_105 rfl rfl rfl ?_
          refine e_ireturn q_105 rfl rfl ?_
          show Ev S (d + 4) 101 10 [some (.inr (some 0)), some (.inl x1), some (.inl x2)] [.inl (-100001)] (up σ 0 5 ((σ 0 5) + 1)) _
          exact e_ireturn q_101 rfl rfl h
    · replace h := h.2 c
      refine e_push q_106 rfl ?_
      refine e_goto q_106 rfl ?_
      refine e_zreturn q_106 rfl rfl (by decide) ?_
      show Ev S (d + 4) 101 3 [some (.inr (some 0)), some (.inl x1), some (.inl x2)] [.inl 1] σ _
      refine e_if (P := ¬ (1 : Int32) = 0) q_101 rfl m_c1 (fun _ => ?_) (fun c => absurd (by decide) c)
      refine e_load q_101 rfl rfl rfl ?_
      refine e_push q_101 rfl ?_
      refine e_virt q_101 rfl rfl (Nat.le_of_ble_eq_true rfl) rfl rfl (Nat.le_of_ble_eq_true rfl) rfl ?_
      show Ev S (d + 3) 105 0 [some (.inr (some 0)), some (.inl (-100001))] [] σ _
      refine e_load q_105 rfl rfl rfl ?_
      refine e_dup q_105 rfl ?_
      refine e_getI q_105 rfl rfl rfl ?_
      refine e_push q_105 rfl ?_
      refine e_bin (r := (σ 0 5) + 1) q_105 rfl rfl ?_
      refine e_putI q_105 rfl rfl rfl ?_
      refine e_load q_105 rfl rfl rfl ?_
      refine e_ireturn q_105 rfl rfl ?_
      show Ev S (d + 4) 101 10 [some (.inr (some 0)), some (.inl x1), some (.inl x2)] [.inl (-100001)] (up σ 0 5 ((σ 0 5) + 1)) _
      exact e_ireturn q_101 rfl rfl h
theorem g_101_15 {S : Nat × (Nat → Int32)} {d : Nat} {σ : Mem} {Q : MQ1} {o0 : Option MV} {o1 : Option MV} {o2 : Option MV} {y0 : Int32}  (h : Q [.inl y0] σ) : Ev S (d + 4) 101 15 [o0, o1, o2] [.inl y0] σ Q := by
  exact e_ireturn q_101 rfl rfl h
theorem g_102_0 {S : Nat × (Nat → Int32)} {d : Nat} {σ : Mem} {Q : MQ1} {x1 : Int32}  (h : ((x1 < 0 → Q [.inl (-100001)] (up σ 0 5 ((σ 0 5) + 1))) ∧ (¬ (x1 < 0) → ((x1 < 6 → Ev S (d + 4) 102 11 [some (.inr (some 0)), some (.inl x1), some (.inl 0), some (.inl 0)] [] σ Q) ∧ (¬ (x1 < 6) → Q [.inl (-100001)] (up σ 0 5 ((σ 0 5) + 1))))))) : Ev S (d + 4) 102 0 [some (.inr (some 0)), some (.inl x1), none, none] [] σ Q := by
  refine e_load q_102 rfl rfl rfl ?_
  refine e_stat q_102 rfl (Nat.le_of_ble_eq_true rfl) rfl rfl (Nat.le_of_ble_eq_true rfl) ?_
  show Ev S (d + 3) 108 0 [some (.inl x1)] [] σ _
  refine e_load q_108 rfl rfl rfl ?_
  refine e_if (P := x1 < 0) q_108 rfl m_c2 (fun c => ?_) (fun c => ?_)
  · replace h := h.1 c
    refine e_push q_108 rfl ?_
    refine e_goto q_108 rfl ?_
    refine e_zreturn q_108 rfl rfl (by decide) ?_
    show Ev S (d + 4) 102 2 [some (.inr (some 0)), some (.inl x1), none, none] [.inl 1] σ _
    refine e_if (P := (1 : Int32) = 0) q_102 rfl m_c0 (fun c => absurd c (by decide)) (fun _ => ?_)
    refine e_load q_102 rfl rfl rfl ?_
    refine e_push q_102 rfl ?_
    refine e_virt q_102 rfl rfl (Nat.le_of_ble_eq_true rfl) rfl rfl (Nat.le_of_ble_eq_true rfl) rfl ?_
    show Ev S (d + 3) 105 0 [some (.inr (some 0)), some (.inl (-100001))] [] σ _
    refine e_load q_105 rfl rfl rfl ?_
    refine e_dup q_105 rfl ?_
    refine e_getI q_105 rfl rfl rfl ?_
    refine e_push q_105 rfl ?_
    refine e_bin (r := (σ 0 5) + 1) q_105 rfl rfl ?_
    refine e_putI q_105 rfl rfl rfl ?_
    refine e_load q_105 rfl rfl rfl ?_
    refine e_ireturn q_105 rfl rfl ?_
    show Ev S (d + 4) 102 6 [some (.inr (some 0)), some (.inl x1), none, none] [.inl (-100001)] (up σ 0 5 ((σ 0 5) + 1)) _
    exact e_ireturn q_102 rfl rfl h
  · replace h := h.2 c
    refine e_load q_108 rfl rfl rfl ?_
    refine e_push q_108 rfl ?_
    refine e_icmp (P := x1 < 6) q_108 rfl m_c2 (fun c => ?_) (fun c => ?_)
    · replace h := h.1 c
      refine e_push q_108 rfl ?_
      refine e_zreturn q_108 rfl rfl (by decide) ?_
      show Ev S (d + 4) 102 2 [some (.inr (some 0)), some (.inl x1), none, none] [.inl 0] σ _
      refine e_if (P := (0 : Int32) = 0) q_102 rfl m_c0 (fun _ => ?_) (fun c => absurd (by decide) c)
      refine e_push q_102 rfl ?_
      refine e_store (ls' := [some (.inr (some 0)), some (.inl x1), some (.inl 0), none]) q_102 rfl (Nat.le_of_ble_eq_true rfl) rfl rfl ?_
      refine e_push q_102 rfl ?_
      refine e_store (ls' := [some (.inr (some 0)), some (.inl x1), some (.inl 0), some (.inl 0)]) q_102 rfl (Nat.le_of_ble_eq_true rfl) rfl rfl ?_
      exact h
    · replace h := h.2 c
      refine e_push q_108 rfl ?_
      refine e_goto q_108 rfl ?_
      refine e_zreturn q_108 rfl rfl (by decide) ?_
      show Ev S (d + 4) 102 2 [some (.inr (some 0)), some (.inl x1), none, none] [.inl 1] σ _
      refine e_if (P := (1 : Int32) = 0) q_102 rfl m_c0 (fun c => absurd c (by decide)) (fun _ => ?_)
      refine e_load q_102 rfl rfl rfl ?_
      refine e_push q_102 rfl ?_
      refine e_virt q_102 rfl rfl (Nat.le_of_ble_eq_true rfl) rfl rfl (Nat.le_of_ble_eq_true rfl) rfl ?_
      show Ev S (d + 3) 105 0 [some (.inr (some 0)), some (.inl (-100001))] [] σ _
      refine e_load q_105 rfl rfl rfl ?_
      refine e_dup q_105 rfl ?_
      refine e_getI q_105 rfl rfl rfl ?_
      refine e_push q_105 rfl ?_
      refine e_bin (r := (σ 0 5) + 1) q_105 rfl rfl ?_
      refine e_putI q_105 rfl rfl rfl ?_
      refine e_load q_105 rfl rfl rfl ?_
      refine e_ireturn q_105 rfl rfl ?_
      show Ev S (d + 4) 102 6 [some (.inr (some 0)), some (.inl x1), none, none] [.inl (-100001)] (up σ 0 5 ((σ 0 5) + 1)) _
      exact e_ireturn q_102 rfl rfl h
theorem g_102_11 {S : Nat × (Nat → Int32)} {d : Nat} {σ : Mem} {Q : MQ1} {x1 : Int32} {x2 : Int32} {x3 : Int32}  (h : (((σ 2 80) ≤ x3 → Q [.inl x2] σ) ∧ (¬ ((σ 2 80) ≤ x3) → Ec S (d + 3) 116 [.inr (some 0), .inl x3, .inl x1] σ (fun rv σ' => Ev S (d + 4) 102 22 [some (.inr (some 0)), some (.inl x1), some (.inl x2), some (.inl x3)] (rv ++ [.inl 0, .inl x2]) σ' Q)))) : Ev S (d + 4) 102 11 [some (.inr (some 0)), some (.inl x1), some (.inl x2), some (.inl x3)] [] σ Q := by
  refine e_load q_102 rfl rfl rfl ?_
  refine e_load q_102 rfl rfl rfl ?_
  refine e_getR q_102 rfl rfl rfl ?_
  refine e_virt q_102 rfl rfl (Nat.le_of_ble_eq_true rfl) rfl rfl (Nat.le_of_ble_eq_true rfl) rfl ?_
  show Ev S (d + 3) 7 0 [some (.inr (some 1))] [] σ _
  refine e_load q_7 rfl rfl rfl ?_
  refine e_getR q_7 rfl rfl rfl ?_
  refine e_push q_7 rfl ?_
  refine e_iald (j := 80) q_7 rfl rfl (by decide) (by decide +kernel) (by decide) ?_
  refine e_ireturn q_7 rfl rfl ?_
  show Ev S (d + 4) 102 15 [some (.inr (some 0)), some (.inl x1), some (.inl x2), some (.inl x3)] [.inl (σ 2 80), .inl x3] σ _
  refine e_icmp (P := (σ 2 80) ≤ x3) q_102 rfl m_c3 (fun c => ?_) (fun c => ?_)
  · replace h := h.1 c
    refine e_load q_102 rfl rfl rfl ?_
    exact e_ireturn q_102 rfl rfl h
  · replace h := h.2 c
    refine e_load q_102 rfl rfl rfl ?_
    refine e_push q_102 rfl ?_
    refine e_load q_102 rfl rfl rfl ?_
    refine e_load q_102 rfl rfl rfl ?_
    refine e_load q_102 rfl rfl rfl ?_
    exact e_virt q_102 rfl rfl (Nat.le_of_ble_eq_true rfl) rfl rfl (Nat.le_of_ble_eq_true rfl) rfl h
theorem g_102_22 {S : Nat × (Nat → Int32)} {d : Nat} {σ : Mem} {Q : MQ1} {x1 : Int32} {o2 : Option MV} {x3 : Int32} {y0 : Int32} {y1 : Int32} {y2 : Int32}  (h : (∃ j1 : Nat, (7 * 8) + x3 = nI j1 ∧ j1 < 81 ∧ Ev S (d + 4) 102 11 [some (.inr (some 0)), some (.inl x1), some (.inl (y0 + (if y1 < y2 - (σ 2 j1) then y2 - (σ 2 j1) else y1))), some (.inl (x3 + 1))] [] σ Q)) : Ev S (d + 4) 102 22 [some (.inr (some 0)), some (.inl x1), o2, some (.inl x3)] [.inl y2, .inl y1, .inl y0] σ Q := by
  refine e_load q_102 rfl rfl rfl ?_
  refine e_getR q_102 rfl rfl rfl ?_
  refine e_push q_102 rfl ?_
  refine e_load q_102 rfl rfl rfl ?_
  refine e_virt q_102 rfl rfl (Nat.le_of_ble_eq_true rfl) rfl rfl (Nat.le_of_ble_eq_true rfl) rfl ?_
  show Ev S (d + 3) 8 0 [some (.inr (some 1)), some (.inl 7), some (.inl x3)] [] σ _
  refine e_load q_8 rfl rfl rfl ?_
  refine e_getR q_8 rfl rfl rfl ?_
  refine e_load q_8 rfl rfl rfl ?_
  refine e_push q_8 rfl ?_
  refine e_bin (r := 7 * 8) q_8 rfl rfl ?_
  refine e_load q_8 rfl rfl rfl ?_
  refine e_bin (r := (7 * 8) + x3) q_8 rfl rfl ?_
  obtain ⟨j1, hjj1, hlj1, h⟩ := h
  refine e_iald q_8 rfl rfl (by decide) hjj1 hlj1 ?_
  refine e_ireturn q_8 rfl rfl ?_
  show Ev S (d + 4) 102 27 [some (.inr (some 0)), some (.inl x1), o2, some (.inl x3)] [.inl (σ 2 j1), .inl y2, .inl y1, .inl y0] σ _
  refine e_bin (r := y2 - (σ 2 j1)) q_102 rfl rfl ?_
  refine e_max (r := (if y1 < y2 - (σ 2 j1) then y2 - (σ 2 j1) else y1)) q_102 rfl (Nat.le_of_ble_eq_true rfl) rfl ?_
  refine e_bin (r := y0 + (if y1 < y2 - (σ 2 j1) then y2 - (σ 2 j1) else y1)) q_102 rfl rfl ?_
  refine e_store (ls' := [some (.inr (some 0)), some (.inl x1), some (.inl (y0 + (if y1 < y2 - (σ 2 j1) then y2 - (σ 2 j1) else y1))), some (.inl x3)]) q_102 rfl (Nat.le_of_ble_eq_true rfl) rfl rfl ?_
  refine e_iinc (ls' := [some (.inr (some 0)), some (.inl x1), some (.inl (y0 + (if y1 < y2 - (σ 2 j1) then y2 - (σ 2 j1) else y1))), some (.inl (x3 + 1))]) q_102 rfl rfl rfl ?_
  refine e_goto q_102 rfl ?_
  exact h
theorem g_103_0 {S : Nat × (Nat → Int32)} {d : Nat} {σ : Mem} {Q : MQ1}   (h : (((¬ (σ 24 2) = 0) → Ec S (d + 2) 27 [.inr (some 24), .inr (some 1)] σ (fun rv σ' => Ev S (d + 3) 103 13 [some (.inr (some 0))] (rv ++ []) σ' Q)) ∧ (¬ (¬ (σ 24 2) = 0) → Q [.inl (-100006)] (up σ 0 5 ((σ 0 5) + 1))))) : Ev S (d + 3) 103 0 [some (.inr (some 0))] [] σ Q := by
  refine e_load q_103 rfl rfl rfl ?_
  refine e_getR q_103 rfl rfl rfl ?_
  refine e_virt q_103 rfl rfl (Nat.le_of_ble_eq_true rfl) rfl rfl (Nat.le_of_ble_eq_true rfl) rfl ?_
  show Ev S (d + 2) 25 0 [some (.inr (some 24))] [] σ _
  refine e_load q_25 rfl rfl rfl ?_
  refine e_getI q_25 rfl rfl rfl ?_
  refine e_if (P := ¬ (σ 24 2) = 0) q_25 rfl m_c1 (fun c => ?_) (fun c => ?_)
  · replace h := h.1 c
    refine e_push q_25 rfl ?_
    refine e_zreturn q_25 rfl rfl (by decide) ?_
    show Ev S (d + 3) 103 3 [some (.inr (some 0))] [.inl 0] σ _
    refine e_if (P := (0 : Int32) = 0) q_103 rfl m_c0 (fun _ => ?_) (fun c => absurd (by decide) c)
    refine e_load q_103 rfl rfl rfl ?_
    refine e_getR q_103 rfl rfl rfl ?_
    refine e_load q_103 rfl rfl rfl ?_
    refine e_getR q_103 rfl rfl rfl ?_
    exact e_virt q_103 rfl rfl (Nat.le_of_ble_eq_true rfl) rfl rfl (Nat.le_of_ble_eq_true rfl) rfl h
  · replace h := h.2 c
    refine e_push q_25 rfl ?_
    refine e_goto q_25 rfl ?_
    refine e_zreturn q_25 rfl rfl (by decide) ?_
    show Ev S (d + 3) 103 3 [some (.inr (some 0))] [.inl 1] σ _
    refine e_if (P := (1 : Int32) = 0) q_103 rfl m_c0 (fun c => absurd c (by decide)) (fun _ => ?_)
    refine e_load q_103 rfl rfl rfl ?_
    refine e_push q_103 rfl ?_
    refine e_virt q_103 rfl rfl (Nat.le_of_ble_eq_true rfl) rfl rfl (Nat.le_of_ble_eq_true rfl) rfl ?_
    show Ev S (d + 2) 105 0 [some (.inr (some 0)), some (.inl (-100006))] [] σ _
    refine e_load q_105 rfl rfl rfl ?_
    refine e_dup q_105 rfl ?_
    refine e_getI q_105 rfl rfl rfl ?_
    refine e_push q_105 rfl ?_
    refine e_bin (r := (σ 0 5) + 1) q_105 rfl rfl ?_
    refine e_putI q_105 rfl rfl rfl ?_
    refine e_load q_105 rfl rfl rfl ?_
    refine e_ireturn q_105 rfl rfl ?_
    show Ev S (d + 3) 103 7 [some (.inr (some 0))] [.inl (-100006)] (up σ 0 5 ((σ 0 5) + 1)) _
    refine e_goto q_103 rfl ?_
    exact e_ireturn q_103 rfl rfl h
theorem g_103_13 {S : Nat × (Nat → Int32)} {d : Nat} {σ : Mem} {Q : MQ1} {o0 : Option MV} {y0 : Int32}  (h : Q [.inl y0] σ) : Ev S (d + 3) 103 13 [o0] [.inl y0] σ Q := by
  exact e_ireturn q_103 rfl rfl h
theorem g_104_0 {S : Nat × (Nat → Int32)} {d : Nat} {σ : Mem} {Q : MQ1} {x1 : Int32}  (h : ((x1 = 0 → Q [.inl (σ 2 80)] σ) ∧ (x1 = 1 → Ec S d 3 [.inl (σ 2 78)] σ (fun rv σ' => Ev S (d + 1) 20 5 [some (.inr (some 1))] (rv ++ []) σ' (fun rv σ' => Ev S (d + 2) 104 9 [some (.inr (some 0)), some (.inl x1)] (rv ++ []) σ' Q))) ∧ (x1 = 2 → Q [.inl (σ 2 79)] σ) ∧ (x1 = 3 → Q [.inl (σ 0 5)] σ) ∧ ((∀ j : Nat, j < 4 → ¬ x1 = 0 + nI j) → Q [.inl (-100001)] (up σ 0 5 ((σ 0 5) + 1))))) : Ev S (d + 2) 104 0 [some (.inr (some 0)), some (.inl x1)] [] σ Q := by
  refine e_load q_104 rfl rfl rfl ?_
  refine e_switch q_104 rfl ?_
  rcases m_sw (x := x1) (t := 17) (lo := 0) (ts := [2, 6, 10, 14]) (by decide) (by decide) (by decide) with ⟨j, hj, hl, hx⟩ | ⟨hx, hn⟩
  · match j, hj, hl, hx with
    | 0, hj, hl, hx =>
      rw [show m_swt 17 0 [2, 6, 10, 14] (x1) = 2 from hx]
      replace h := h.1 (hj.trans (by decide +kernel))
      refine e_load q_104 rfl rfl rfl ?_
      refine e_getR q_104 rfl rfl rfl ?_
      refine e_virt q_104 rfl rfl (Nat.le_of_ble_eq_true rfl) rfl rfl (Nat.le_of_ble_eq_true rfl) rfl ?_
      show Ev S (d + 1) 7 0 [some (.inr (some 1))] [] σ _
      refine e_load q_7 rfl rfl rfl ?_
      refine e_getR q_7 rfl rfl rfl ?_
      refine e_push q_7 rfl ?_
      refine e_iald (j := 80) q_7 rfl rfl (by decide) (by decide +kernel) (by decide) ?_
      refine e_ireturn q_7 rfl rfl ?_
      show Ev S (d + 2) 104 5 [some (.inr (some 0)), some (.inl x1)] [.inl (σ 2 80)] σ _
      exact e_ireturn q_104 rfl rfl h
    | 1, hj, hl, hx =>
      rw [show m_swt 17 0 [2, 6, 10, 14] (x1) = 6 from hx]
      replace h := h.2.1 (hj.trans (by decide +kernel))
      refine e_load q_104 rfl rfl rfl ?_
      refine e_getR q_104 rfl rfl rfl ?_
      refine e_virt q_104 rfl rfl (Nat.le_of_ble_eq_true rfl) rfl rfl (Nat.le_of_ble_eq_true rfl) rfl ?_
      show Ev S (d + 1) 20 0 [some (.inr (some 1))] [] σ _
      refine e_load q_20 rfl rfl rfl ?_
      refine e_getR q_20 rfl rfl rfl ?_
      refine e_push q_20 rfl ?_
      refine e_iald (j := 78) q_20 rfl rfl (by decide) (by decide +kernel) (by decide) ?_
      exact e_stat q_20 rfl (Nat.le_of_ble_eq_true rfl) rfl rfl (Nat.le_of_ble_eq_true rfl) h
    | 2, hj, hl, hx =>
      rw [show m_swt 17 0 [2, 6, 10, 14] (x1) = 10 from hx]
      replace h := h.2.2.1 (hj.trans (by decide +kernel))
      refine e_load q_104 rfl rfl rfl ?_
      refine e_getR q_104 rfl rfl rfl ?_
      refine e_virt q_104 rfl rfl (Nat.le_of_ble_eq_true rfl) rfl rfl (Nat.le_of_ble_eq_true rfl) rfl ?_
      show Ev S (d + 1) 22 0 [some (.inr (some 1))] [] σ _
      refine e_load q_22 rfl rfl rfl ?_
      refine e_getR q_22 rfl rfl rfl ?_
      refine e_push q_22 rfl ?_
      refine e_iald (j := 79) q_22 rfl rfl (by decide) (by decide +kernel) (by decide) ?_
      refine e_ireturn q_22 rfl rfl ?_
      show Ev S (d + 2) 104 13 [some (.inr (some 0)), some (.inl x1)] [.inl (σ 2 79)] σ _
      exact e_ireturn q_104 rfl rfl h
    | 3, hj, hl, hx =>
      rw [show m_swt 17 0 [2, 6, 10, 14] (x1) = 14 from hx]
      replace h := h.2.2.2.1 (hj.trans (by decide +kernel))
      refine e_load q_104 rfl rfl rfl ?_
      refine e_getI q_104 rfl rfl rfl ?_
      exact e_ireturn q_104 rfl rfl h
    | j + 4, hj, hl, hx => exact absurd hl (show ¬ j + 4 < 4 by omega)
  · rw [hx]
    replace h := h.2.2.2.2 hn
    refine e_load q_104 rfl rfl rfl ?_
    refine e_push q_104 rfl ?_
    refine e_virt q_104 rfl rfl (Nat.le_of_ble_eq_true rfl) rfl rfl (Nat.le_of_ble_eq_true rfl) rfl ?_
    show Ev S (d + 1) 105 0 [some (.inr (some 0)), some (.inl (-100001))] [] σ _
    refine e_load q_105 rfl rfl rfl ?_
    refine e_dup q_105 rfl ?_
    refine e_getI q_105 rfl rfl rfl ?_
    refine e_push q_105 rfl ?_
    refine e_bin (r := (σ 0 5) + 1) q_105 rfl rfl ?_
    refine e_putI q_105 rfl rfl rfl ?_
    refine e_load q_105 rfl rfl rfl ?_
    refine e_ireturn q_105 rfl rfl ?_
    show Ev S (d + 2) 104 20 [some (.inr (some 0)), some (.inl x1)] [.inl (-100001)] (up σ 0 5 ((σ 0 5) + 1)) _
    exact e_ireturn q_104 rfl rfl h
theorem g_104_9 {S : Nat × (Nat → Int32)} {d : Nat} {σ : Mem} {Q : MQ1} {o0 : Option MV} {o1 : Option MV} {y0 : Int32}  (h : Q [.inl y0] σ) : Ev S (d + 2) 104 9 [o0, o1] [.inl y0] σ Q := by
  exact e_ireturn q_104 rfl rfl h
theorem g_112_0 {S : Nat × (Nat → Int32)} {d : Nat} {σ : Mem} {Q : MQ1} {x1 : Int32} {x2 : Int32} {x3 : Int32}  (h : Ec S (d + 2) 26 [.inr (some 24), .inr (some 1)] σ (fun rv σ' => Ev S (d + 3) 112 5 [some (.inr (some 0)), some (.inl x1), some (.inl x2), some (.inl x3), none] (rv ++ []) σ' Q)) : Ev S (d + 3) 112 0 [some (.inr (some 0)), some (.inl x1), some (.inl x2), some (.inl x3), none] [] σ Q := by
  refine e_load q_112 rfl rfl rfl ?_
  refine e_getR q_112 rfl rfl rfl ?_
  refine e_load q_112 rfl rfl rfl ?_
  refine e_getR q_112 rfl rfl rfl ?_
  exact e_virt q_112 rfl rfl (Nat.le_of_ble_eq_true rfl) rfl rfl (Nat.le_of_ble_eq_true rfl) rfl h
theorem g_112_5 {S : Nat × (Nat → Int32)} {d : Nat} {σ : Mem} {Q : MQ1} {x1 : Int32} {x2 : Int32} {x3 : Int32} {o4 : Option MV}  (h : (∃ j1 : Nat, (x1 * 8) + x2 = nI j1 ∧ j1 < 81 ∧ (∃ j2 : Nat, (x1 * 8) + x2 = nI j2 ∧ j2 < 81 ∧ Q [.inl (σ 2 j1)] (up σ 2 j2 x3)))) : Ev S (d + 3) 112 5 [some (.inr (some 0)), some (.inl x1), some (.inl x2), some (.inl x3), o4] [] σ Q := by
  refine e_load q_112 rfl rfl rfl ?_
  refine e_getR q_112 rfl rfl rfl ?_
  refine e_load q_112 rfl rfl rfl ?_
  refine e_load q_112 rfl rfl rfl ?_
  refine e_virt q_112 rfl rfl (Nat.le_of_ble_eq_true rfl) rfl rfl (Nat.le_of_ble_eq_true rfl) rfl ?_
  show Ev S (d + 2) 8 0 [some (.inr (some 1)), some (.inl x1), some (.inl x2)] [] σ _
  refine e_load q_8 rfl rfl rfl ?_
  refine e_getR q_8 rfl rfl rfl ?_
  refine e_load q_8 rfl rfl rfl ?_
  refine e_push q_8 rfl ?_
  refine e_bin (r := x1 * 8) q_8 rfl rfl ?_
  refine e_load q_8 rfl rfl rfl ?_
  refine e_bin (r := (x1 * 8) + x2) q_8 rfl rfl ?_
  obtain ⟨j1, hjj1, hlj1, h⟩ := h
  refine e_iald q_8 rfl rfl (by decide) hjj1 hlj1 ?_
  refine e_ireturn q_8 rfl rfl ?_
  show Ev S (d + 3) 112 10 [some (.inr (some 0)), some (.inl x1), some (.inl x2), some (.inl x3), o4] [.inl (σ 2 j1)] σ _
  refine e_store (ls' := [some (.inr (some 0)), some (.inl x1), some (.inl x2), some (.inl x3), some (.inl (σ 2 j1))]) q_112 rfl (Nat.le_of_ble_eq_true rfl) rfl rfl ?_
  refine e_load q_112 rfl rfl rfl ?_
  refine e_getR q_112 rfl rfl rfl ?_
  refine e_load q_112 rfl rfl rfl ?_
  refine e_load q_112 rfl rfl rfl ?_
  refine e_load q_112 rfl rfl rfl ?_
  refine e_virt q_112 rfl rfl (Nat.le_of_ble_eq_true rfl) rfl rfl (Nat.le_of_ble_eq_true rfl) rfl ?_
  show Ev S (d + 2) 9 0 [some (.inr (some 1)), some (.inl x1), some (.inl x2), some (.inl x3)] [] σ _
  refine e_load q_9 rfl rfl rfl ?_
  refine e_getR q_9 rfl rfl rfl ?_
  refine e_load q_9 rfl rfl rfl ?_
  refine e_push q_9 rfl ?_
  refine e_bin (r := x1 * 8) q_9 rfl rfl ?_
  refine e_load q_9 rfl rfl rfl ?_
  refine e_bin (r := (x1 * 8) + x2) q_9 rfl rfl ?_
  refine e_load q_9 rfl rfl rfl ?_
  obtain ⟨j2, hjj2, hlj2, h⟩ := h
  refine e_iast q_9 rfl rfl (by decide) hjj2 hlj2 ?_
  refine e_return q_9 rfl rfl ?_
  show Ev S (d + 3) 112 17 [some (.inr (some 0)), some (.inl x1), some (.inl x2), some (.inl x3), some (.inl (σ 2 j1))] [] (up σ 2 j2 x3) _
  refine e_load q_112 rfl rfl rfl ?_
  exact e_ireturn q_112 rfl rfl h
theorem g_113_28 {S : Nat × (Nat → Int32)} {d : Nat} {σ : Mem} {Q : MQ1} {o0 : Option MV} {o1 : Option MV} {o2 : Option MV} {o3 : Option MV} {y0 : Int32}  (h : Q [.inl y0] σ) : Ev S (d + 4) 113 28 [o0, o1, o2, o3] [.inl y0] σ Q := by
  exact e_ireturn q_113 rfl rfl h
theorem g_114_3 {S : Nat × (Nat → Int32)} {d : Nat} {σ : Mem} {Q : MQ1} {x1 : Int32} {x2 : Int32} {o3 : Option MV} {y0 : Int32}  (h : ((y0 = 0 → Ec S (d + 4) 53 [.inr (some 4)] σ (fun rv σ' => Ev S (d + 5) 114 11 [some (.inr (some 0)), some (.inl x1), some (.inl x2), o3] (rv ++ []) σ' Q)) ∧ (¬ (y0 = 0) → Q [.inl (-100008)] (up σ 0 5 ((σ 0 5) + 1))))) : Ev S (d + 5) 114 3 [some (.inr (some 0)), some (.inl x1), some (.inl x2), o3] [.inl y0] σ Q := by
  refine e_if (P := y0 = 0) q_114 rfl m_c0 (fun c => ?_) (fun c => ?_)
  · replace h := h.1 c
    refine e_load q_114 rfl rfl rfl ?_
    refine e_getR q_114 rfl rfl rfl ?_
    exact e_virt q_114 rfl rfl (Nat.le_of_ble_eq_true rfl) rfl rfl (Nat.le_of_ble_eq_true rfl) rfl h
  · replace h := h.2 c
    refine e_load q_114 rfl rfl rfl ?_
    refine e_push q_114 rfl ?_
    refine e_virt q_114 rfl rfl (Nat.le_of_ble_eq_true rfl) rfl rfl (Nat.le_of_ble_eq_true rfl) rfl ?_
    show Ev S (d + 4) 105 0 [some (.inr (some 0)), some (.inl (-100008))] [] σ _
    refine e_load q_105 rfl rfl rfl ?_
    refine e_dup q_105 rfl ?_
    refine e_getI q_105 rfl rfl rfl ?_
    refine e_push q_105 rfl ?_
    refine e_bin (r := (σ 0 5) + 1) q_105 rfl rfl ?_
    refine e_putI q_105 rfl rfl rfl ?_
    refine e_load q_105 rfl rfl rfl ?_
    refine e_ireturn q_105 rfl rfl ?_
    show Ev S (d + 5) 114 7 [some (.inr (some 0)), some (.inl x1), some (.inl x2), o3] [.inl (-100008)] (up σ 0 5 ((σ 0 5) + 1)) _
    exact e_ireturn q_114 rfl rfl h
theorem g_114_11 {S : Nat × (Nat → Int32)} {d : Nat} {σ : Mem} {Q : MQ1} {x1 : Int32} {x2 : Int32} {o3 : Option MV}  (h : Ec S (d + 3) 54 [.inr (some 4)] (up (up σ 4 5 x1) 4 7 0) (fun rv σ' => Ev S (d + 4) 51 8 [some (.inr (some 4)), some (.inl x1)] (rv ++ []) σ' (fun rv σ' => Ev S (d + 5) 114 15 [some (.inr (some 0)), some (.inl x1), some (.inl x2), o3] (rv ++ []) σ' Q))) : Ev S (d + 5) 114 11 [some (.inr (some 0)), some (.inl x1), some (.inl x2), o3] [] σ Q := by
  refine e_load q_114 rfl rfl rfl ?_
  refine e_getR q_114 rfl rfl rfl ?_
  refine e_load q_114 rfl rfl rfl ?_
  refine e_virt q_114 rfl rfl (Nat.le_of_ble_eq_true rfl) rfl rfl (Nat.le_of_ble_eq_true rfl) rfl ?_
  show Ev S (d + 4) 51 0 [some (.inr (some 4)), some (.inl x1)] [] σ _
  refine e_load q_51 rfl rfl rfl ?_
  refine e_load q_51 rfl rfl rfl ?_
  refine e_putI q_51 rfl rfl rfl ?_
  refine e_load q_51 rfl rfl rfl ?_
  refine e_push q_51 rfl ?_
  refine e_putI q_51 rfl rfl rfl ?_
  refine e_load q_51 rfl rfl rfl ?_
  exact e_virt q_51 rfl rfl (Nat.le_of_ble_eq_true rfl) rfl rfl (Nat.le_of_ble_eq_true rfl) rfl h
theorem g_114_15 {S : Nat × (Nat → Int32)} {d : Nat} {σ : Mem} {Q : MQ1} {x1 : Int32} {x2 : Int32} {o3 : Option MV}  (h : (((¬ x1 = 2) → (((¬ (σ 4 7) = 0) → (((¬ x1 = 0) → ((x2 = 0 → Q [.inl (σ 4 8)] σ) ∧ (¬ (x2 = 0) → Ec S (d + 4) 26 [.inr (some 24), .inr (some 1)] σ (fun rv σ' => Ev S (d + 5) 114 47 [some (.inr (some 0)), some (.inl x1), some (.inl x2), some (.inl (σ 4 8))] (rv ++ []) σ' Q)))) ∧ (¬ (¬ x1 = 0) → ((x2 = 0 → Q [.inl (σ 4 9)] σ) ∧ (¬ (x2 = 0) → Ec S (d + 4) 26 [.inr (some 24), .inr (some 1)] σ (fun rv σ' => Ev S (d + 5) 114 47 [some (.inr (some 0)), some (.inl x1), some (.inl x2), some (.inl (σ 4 9))] (rv ++ []) σ' Q)))))) ∧ (¬ (¬ (σ 4 7) = 0) → Q [.inl (-100006)] (up σ 0 5 ((σ 0 5) + 1))))) ∧ (¬ (¬ x1 = 2) → Q [.inl (σ 4 7)] σ))) : Ev S (d + 5) 114 15 [some (.inr (some 0)), some (.inl x1), some (.inl x2), o3] [] σ Q := by
  refine e_load q_114 rfl rfl rfl ?_
  refine e_push q_114 rfl ?_
  refine e_icmp (P := ¬ x1 = 2) q_114 rfl m_c1 (fun c => ?_) (fun c => ?_)
  · replace h := h.1 c
    refine e_load q_114 rfl rfl rfl ?_
    refine e_getR q_114 rfl rfl rfl ?_
    refine e_virt q_114 rfl rfl (Nat.le_of_ble_eq_true rfl) rfl rfl (Nat.le_of_ble_eq_true rfl) rfl ?_
    show Ev S (d + 4) 48 0 [some (.inr (some 4))] [] σ _
    refine e_load q_48 rfl rfl rfl ?_
    refine e_getI q_48 rfl rfl rfl ?_
    refine e_ireturn q_48 rfl rfl ?_
    show Ev S (d + 5) 114 25 [some (.inr (some 0)), some (.inl x1), some (.inl x2), o3] [.inl (σ 4 7)] σ _
    refine e_if (P := ¬ (σ 4 7) = 0) q_114 rfl m_c1 (fun c => ?_) (fun c => ?_)
    · replace h := h.1 c
      refine e_load q_114 rfl rfl rfl ?_
      refine e_if (P := ¬ x1 = 0) q_114 rfl m_c1 (fun c => ?_) (fun c => ?_)
      · replace h := h.1 c
        refine e_load q_114 rfl rfl rfl ?_
        refine e_getR q_114 rfl rfl rfl ?_
        refine e_virt q_114 rfl rfl (Nat.le_of_ble_eq_true rfl) rfl rfl (Nat.le_of_ble_eq_true rfl) rfl ?_
        show Ev S (d + 4) 50 0 [some (.inr (some 4))] [] σ _
        refine e_load q_50 rfl rfl rfl ?_
        refine e_getI q_50 rfl rfl rfl ?_
        refine e_ireturn q_50 rfl rfl ?_
        show Ev S (d + 5) 114 39 [some (.inr (some 0)), some (.inl x1), some (.inl x2), o3] [.inl (σ 4 8)] σ _
        refine e_store (ls' := [some (.inr (some 0)), some (.inl x1), some (.inl x2), some (.inl (σ 4 8))]) q_114 rfl (Nat.le_of_ble_eq_true rfl) rfl rfl ?_
        refine e_load q_114 rfl rfl rfl ?_
        refine e_if (P := x2 = 0) q_114 rfl m_c0 (fun c => ?_) (fun c => ?_)
        · replace h := h.1 c
          refine e_load q_114 rfl rfl rfl ?_
          exact e_ireturn q_114 rfl rfl h
        · replace h := h.2 c
          refine e_load q_114 rfl rfl rfl ?_
          refine e_getR q_114 rfl rfl rfl ?_
          refine e_load q_114 rfl rfl rfl ?_
          refine e_getR q_114 rfl rfl rfl ?_
          exact e_virt q_114 rfl rfl (Nat.le_of_ble_eq_true rfl) rfl rfl (Nat.le_of_ble_eq_true rfl) rfl h
      · replace h := h.2 c
        refine e_load q_114 rfl rfl rfl ?_
        refine e_getR q_114 rfl rfl rfl ?_
        refine e_virt q_114 rfl rfl (Nat.le_of_ble_eq_true rfl) rfl rfl (Nat.le_of_ble_eq_true rfl) rfl ?_
        show Ev S (d + 4) 49 0 [some (.inr (some 4))] [] σ _
        refine e_load q_49 rfl rfl rfl ?_
        refine e_getI q_49 rfl rfl rfl ?_
        refine e_ireturn q_49 rfl rfl ?_
        show Ev S (d + 5) 114 35 [some (.inr (some 0)), some (.inl x1), some (.inl x2), o3] [.inl (σ 4 9)] σ _
        refine e_goto q_114 rfl ?_
        refine e_store (ls' := [some (.inr (some 0)), some (.inl x1), some (.inl x2), some (.inl (σ 4 9))]) q_114 rfl (Nat.le_of_ble_eq_true rfl) rfl rfl ?_
        refine e_load q_114 rfl rfl rfl ?_
        refine e_if (P := x2 = 0) q_114 rfl m_c0 (fun c => ?_) (fun c => ?_)
        · replace h := h.1 c
          refine e_load q_114 rfl rfl rfl ?_
          exact e_ireturn q_114 rfl rfl h
        · replace h := h.2 c
          refine e_load q_114 rfl rfl rfl ?_
          refine e_getR q_114 rfl rfl rfl ?_
          refine e_load q_114 rfl rfl rfl ?_
          refine e_getR q_114 rfl rfl rfl ?_
          exact e_virt q_114 rfl rfl (Nat.le_of_ble_eq_true rfl) rfl rfl (Nat.le_of_ble_eq_true rfl) rfl h
    · replace h := h.2 c
      refine e_load q_114 rfl rfl rfl ?_
      refine e_push q_114 rfl ?_
      refine e_virt q_114 rfl rfl (Nat.le_of_ble_eq_true rfl) rfl rfl (Nat.le_of_ble_eq_true rfl) rfl ?_
      show Ev S (d + 4) 105 0 [some (.inr (some 0)), some (.inl (-100006))] [] σ _
      refine e_load q_105 rfl rfl rfl ?_
      refine e_dup q_105 rfl ?_
      refine e_getI q_105 rfl rfl rfl ?_
      refine e_push q_105 rfl ?_
      refine e_bin (r := (σ 0 5) + 1) q_105 rfl rfl ?_
      refine e_putI q_105 rfl rfl rfl ?_
      refine e_load q_105 rfl rfl rfl ?_
      refine e_ireturn q_105 rfl rfl ?_
      show Ev S (d + 5) 114 29 [some (.inr (some 0)), some (.inl x1), some (.inl x2), o3] [.inl (-100006)] (up σ 0 5 ((σ 0 5) + 1)) _
      exact e_ireturn q_114 rfl rfl h
  · replace h := h.2 c
    refine e_load q_114 rfl rfl rfl ?_
    refine e_getR q_114 rfl rfl rfl ?_
    refine e_virt q_114 rfl rfl (Nat.le_of_ble_eq_true rfl) rfl rfl (Nat.le_of_ble_eq_true rfl) rfl ?_
    show Ev S (d + 4) 48 0 [some (.inr (some 4))] [] σ _
    refine e_load q_48 rfl rfl rfl ?_
    refine e_getI q_48 rfl rfl rfl ?_
    refine e_ireturn q_48 rfl rfl ?_
    show Ev S (d + 5) 114 21 [some (.inr (some 0)), some (.inl x1), some (.inl x2), o3] [.inl (σ 4 7)] σ _
    exact e_ireturn q_114 rfl rfl h
theorem g_114_47 {S : Nat × (Nat → Int32)} {d : Nat} {σ : Mem} {Q : MQ1} {o1 : Option MV} {o2 : Option MV} {x3 : Int32}  (h : Ec S (d + 4) 52 [.inr (some 4)] σ (fun rv σ' => Ev S (d + 5) 114 50 [some (.inr (some 0)), o1, o2, some (.inl x3)] (rv ++ []) σ' Q)) : Ev S (d + 5) 114 47 [some (.inr (some 0)), o1, o2, some (.inl x3)] [] σ Q := by
  refine e_load q_114 rfl rfl rfl ?_
  refine e_getR q_114 rfl rfl rfl ?_
  exact e_virt q_114 rfl rfl (Nat.le_of_ble_eq_true rfl) rfl rfl (Nat.le_of_ble_eq_true rfl) rfl h
theorem g_114_50 {S : Nat × (Nat → Int32)} {d : Nat} {σ : Mem} {Q : MQ1} {o0 : Option MV} {o1 : Option MV} {o2 : Option MV} {x3 : Int32}  (h : Q [.inl x3] σ) : Ev S (d + 5) 114 50 [o0, o1, o2, some (.inl x3)] [] σ Q := by
  refine e_load q_114 rfl rfl rfl ?_
  exact e_ireturn q_114 rfl rfl h
theorem g_115_0 {S : Nat × (Nat → Int32)} {d : Nat} {σ : Mem} {Q : MQ1} {x1 : Int32}  (h : Ev S (d + 1) 115 4 [some (.inr (some 0)), some (.inl x1), some (.inl 0), some (.inl 0)] [] σ Q) : Ev S (d + 1) 115 0 [some (.inr (some 0)), some (.inl x1), none, none] [] σ Q := by
  refine e_push q_115 rfl ?_
  refine e_store (ls' := [some (.inr (some 0)), some (.inl x1), some (.inl 0), none]) q_115 rfl (Nat.le_of_ble_eq_true rfl) rfl rfl ?_
  refine e_push q_115 rfl ?_
  refine e_store (ls' := [some (.inr (some 0)), some (.inl x1), some (.inl 0), some (.inl 0)]) q_115 rfl (Nat.le_of_ble_eq_true rfl) rfl rfl ?_
  exact h
theorem g_115_4 {S : Nat × (Nat → Int32)} {d : Nat} {σ : Mem} {Q : MQ1} {x1 : Int32} {x2 : Int32} {x3 : Int32}  (h : (((σ 2 80) ≤ x3 → Q [.inl x2] σ) ∧ (¬ ((σ 2 80) ≤ x3) → ((((x1 >>> (x3 &&& 31)) &&& 1) = 0 → Ev S (d + 1) 115 4 [some (.inr (some 0)), some (.inl x1), some (.inl x2), some (.inl (x3 + 1))] [] σ Q) ∧ (¬ (((x1 >>> (x3 &&& 31)) &&& 1) = 0) → (∃ j2 : Nat, (1 * 8) + x3 = nI j2 ∧ j2 < 81 ∧ Ev S (d + 1) 115 4 [some (.inr (some 0)), some (.inl x1), some (.inl (x2 + (σ 2 j2))), some (.inl (x3 + 1))] [] σ Q)))))) : Ev S (d + 1) 115 4 [some (.inr (some 0)), some (.inl x1), some (.inl x2), some (.inl x3)] [] σ Q := by
  refine e_load q_115 rfl rfl rfl ?_
  refine e_load q_115 rfl rfl rfl ?_
  refine e_getR q_115 rfl rfl rfl ?_
  refine e_virt q_115 rfl rfl (Nat.le_of_ble_eq_true rfl) rfl rfl (Nat.le_of_ble_eq_true rfl) rfl ?_
  show Ev S d 7 0 [some (.inr (some 1))] [] σ _
  refine e_load q_7 rfl rfl rfl ?_
  refine e_getR q_7 rfl rfl rfl ?_
  refine e_push q_7 rfl ?_
  refine e_iald (j := 80) q_7 rfl rfl (by decide) (by decide +kernel) (by decide) ?_
  refine e_ireturn q_7 rfl rfl ?_
  show Ev S (d + 1) 115 8 [some (.inr (some 0)), some (.inl x1), some (.inl x2), some (.inl x3)] [.inl (σ 2 80), .inl x3] σ _
  refine e_icmp (P := (σ 2 80) ≤ x3) q_115 rfl m_c3 (fun c => ?_) (fun c => ?_)
  · replace h := h.1 c
    refine e_load q_115 rfl rfl rfl ?_
    exact e_ireturn q_115 rfl rfl h
  · replace h := h.2 c
    refine e_load q_115 rfl rfl rfl ?_
    refine e_load q_115 rfl rfl rfl ?_
    refine e_stat q_115 rfl (Nat.le_of_ble_eq_true rfl) rfl rfl (Nat.le_of_ble_eq_true rfl) ?_
    show Ev S d 110 0 [some (.inl x1), some (.inl x3)] [] σ _
    refine e_load q_110 rfl rfl rfl ?_
    refine e_load q_110 rfl rfl rfl ?_
    refine e_bin (r := x1 >>> (x3 &&& 31)) q_110 rfl rfl ?_
    refine e_push q_110 rfl ?_
    refine e_bin (r := (x1 >>> (x3 &&& 31)) &&& 1) q_110 rfl rfl ?_
    refine e_if (P := ((x1 >>> (x3 &&& 31)) &&& 1) = 0) q_110 rfl m_c0 (fun c => ?_) (fun c => ?_)
    · replace h := h.1 c
      refine e_push q_110 rfl ?_
      refine e_zreturn q_110 rfl rfl (by decide) ?_
      show Ev S (d + 1) 115 12 [some (.inr (some 0)), some (.inl x1), some (.inl x2), some (.inl x3)] [.inl 0] σ _
      refine e_if (P := (0 : Int32) = 0) q_115 rfl m_c0 (fun _ => ?_) (fun c => absurd (by decide) c)
      refine e_iinc (ls' := [some (.inr (some 0)), some (.inl x1), some (.inl x2), some (.inl (x3 + 1))]) q_115 rfl rfl rfl ?_
      refine e_goto q_115 rfl ?_
      exact h
    · replace h := h.2 c
      refine e_push q_110 rfl ?_
      refine e_goto q_110 rfl ?_
      refine e_zreturn q_110 rfl rfl (by decide) ?_
      show Ev S (d + 1) 115 12 [some (.inr (some 0)), some (.inl x1), some (.inl x2), some (.inl x3)] [.inl 1] σ _
      refine e_if (P := (1 : Int32) = 0) q_115 rfl m_c0 (fun c => absurd c (by decide)) (fun _ => ?_)
      refine e_load q_115 rfl rfl rfl ?_
      refine e_load q_115 rfl rfl rfl ?_
      refine e_getR q_115 rfl rfl rfl ?_
      refine e_push q_115 rfl ?_
      refine e_load q_115 rfl rfl rfl ?_
      refine e_virt q_115 rfl rfl (Nat.le_of_ble_eq_true rfl) rfl rfl (Nat.le_of_ble_eq_true rfl) rfl ?_
      show Ev S d 8 0 [some (.inr (some 1)), some (.inl 1), some (.inl x3)] [] σ _
      refine e_load q_8 rfl rfl rfl ?_
      refine e_getR q_8 rfl rfl rfl ?_
      refine e_load q_8 rfl rfl rfl ?_
      refine e_push q_8 rfl ?_
      refine e_bin (r := 1 * 8) q_8 rfl rfl ?_
      refine e_load q_8 rfl rfl rfl ?_
      refine e_bin (r := (1 * 8) + x3) q_8 rfl rfl ?_
      obtain ⟨j2, hjj2, hlj2, h⟩ := h
      refine e_iald q_8 rfl rfl (by decide) hjj2 hlj2 ?_
      refine e_ireturn q_8 rfl rfl ?_
      show Ev S (d + 1) 115 19 [some (.inr (some 0)), some (.inl x1), some (.inl x2), some (.inl x3)] [.inl (σ 2 j2), .inl x2] σ _
      refine e_bin (r := x2 + (σ 2 j2)) q_115 rfl rfl ?_
      refine e_store (ls' := [some (.inr (some 0)), some (.inl x1), some (.inl (x2 + (σ 2 j2))), some (.inl x3)]) q_115 rfl (Nat.le_of_ble_eq_true rfl) rfl rfl ?_
      refine e_iinc (ls' := [some (.inr (some 0)), some (.inl x1), some (.inl (x2 + (σ 2 j2))), some (.inl (x3 + 1))]) q_115 rfl rfl rfl ?_
      refine e_goto q_115 rfl ?_
      exact h
theorem g_116_0 {S : Nat × (Nat → Int32)} {d : Nat} {σ : Mem} {Q : MQ1} {x1 : Int32} {x2 : Int32}  (h : (∃ j1 : Nat, 0 + x1 = nI j1 ∧ j1 < 81 ∧ (((¬ (σ 2 j1) = 2) → (∃ j2 : Nat, (5 * 8) + x1 = nI j2 ∧ j2 < 81 ∧ (∃ j3 : Nat, (6 * 8) + x1 = nI j3 ∧ j3 < 81 ∧ (((σ 2 j2) = (-1) → (((σ 2 j3) = (-1) → Q [.inl 0] σ) ∧ (¬ ((σ 2 j3) = (-1)) → ((x2 < (σ 2 j3) → Q [.inl 0] σ) ∧ (¬ (x2 < (σ 2 j3)) → Q [.inl (0 + 1)] σ))))) ∧ (¬ ((σ 2 j2) = (-1)) → ((x2 < (σ 2 j2) → (((σ 2 j3) = (-1) → Q [.inl 0] σ) ∧ (¬ ((σ 2 j3) = (-1)) → ((x2 < (σ 2 j3) → Q [.inl 0] σ) ∧ (¬ (x2 < (σ 2 j3)) → Q [.inl (0 + 1)] σ))))) ∧ (¬ (x2 < (σ 2 j2)) → (∃ j4 : Nat, (1 * 8) + x1 = nI j4 ∧ j4 < 81 ∧ (((σ 2 j3) = (-1) → Q [.inl (σ 2 j4)] σ) ∧ (¬ ((σ 2 j3) = (-1)) → ((x2 < (σ 2 j3) → Q [.inl (σ 2 j4)] σ) ∧ (¬ (x2 < (σ 2 j3)) → Q [.inl ((σ 2 j4) + 1)] σ)))))))))))) ∧ (¬ (¬ (σ 2 j1) = 2) → Ec S (d + 2) 21 [.inr (some 1), .inl x2] σ (fun rv σ' => Ev S (d + 3) 116 9 [some (.inr (some 0)), some (.inl x1), some (.inl x2), none, none, none] (rv ++ []) σ' Q))))) : Ev S (d + 3) 116 0 [some (.inr (some 0)), some (.inl x1), some (.inl x2), none, none, none] [] σ Q := by
  refine e_load q_116 rfl rfl rfl ?_
  refine e_getR q_116 rfl rfl rfl ?_
  refine e_load q_116 rfl rfl rfl ?_
  refine e_virt q_116 rfl rfl (Nat.le_of_ble_eq_true rfl) rfl rfl (Nat.le_of_ble_eq_true rfl) rfl ?_
  show Ev S (d + 2) 12 0 [some (.inr (some 1)), some (.inl x1)] [] σ _
  refine e_load q_12 rfl rfl rfl ?_
  refine e_getR q_12 rfl rfl rfl ?_
  refine e_push q_12 rfl ?_
  refine e_load q_12 rfl rfl rfl ?_
  refine e_bin (r := 0 + x1) q_12 rfl rfl ?_
  obtain ⟨j1, hjj1, hlj1, h⟩ := h
  refine e_iald q_12 rfl rfl (by decide) hjj1 hlj1 ?_
  refine e_push q_12 rfl ?_
  refine e_icmp (P := ¬ (σ 2 j1) = 2) q_12 rfl m_c1 (fun c => ?_) (fun c => ?_)
  · replace h := h.1 c
    refine e_push q_12 rfl ?_
    refine e_zreturn q_12 rfl rfl (by decide) ?_
    show Ev S (d + 3) 116 4 [some (.inr (some 0)), some (.inl x1), some (.inl x2), none, none, none] [.inl 0] σ _
    refine e_if (P := (0 : Int32) = 0) q_116 rfl m_c0 (fun _ => ?_) (fun c => absurd (by decide) c)
    refine e_load q_116 rfl rfl rfl ?_
    refine e_getR q_116 rfl rfl rfl ?_
    refine e_push q_116 rfl ?_
    refine e_load q_116 rfl rfl rfl ?_
    refine e_virt q_116 rfl rfl (Nat.le_of_ble_eq_true rfl) rfl rfl (Nat.le_of_ble_eq_true rfl) rfl ?_
    show Ev S (d + 2) 8 0 [some (.inr (some 1)), some (.inl 5), some (.inl x1)] [] σ _
    refine e_load q_8 rfl rfl rfl ?_
    refine e_getR q_8 rfl rfl rfl ?_
    refine e_load q_8 rfl rfl rfl ?_
    refine e_push q_8 rfl ?_
    refine e_bin (r := 5 * 8) q_8 rfl rfl ?_
    refine e_load q_8 rfl rfl rfl ?_
    refine e_bin (r := (5 * 8) + x1) q_8 rfl rfl ?_
    obtain ⟨j2, hjj2, hlj2, h⟩ := h
    refine e_iald q_8 rfl rfl (by decide) hjj2 hlj2 ?_
    refine e_ireturn q_8 rfl rfl ?_
    show Ev S (d + 3) 116 15 [some (.inr (some 0)), some (.inl x1), some (.inl x2), none, none, none] [.inl (σ 2 j2)] σ _
    refine e_store (ls' := [some (.inr (some 0)), some (.inl x1), some (.inl x2), some (.inl (σ 2 j2)), none, none]) q_116 rfl (Nat.le_of_ble_eq_true rfl) rfl rfl ?_
    refine e_load q_116 rfl rfl rfl ?_
    refine e_getR q_116 rfl rfl rfl ?_
    refine e_push q_116 rfl ?_
    refine e_load q_116 rfl rfl rfl ?_
    refine e_virt q_116 rfl rfl (Nat.le_of_ble_eq_true rfl) rfl rfl (Nat.le_of_ble_eq_true rfl) rfl ?_
    show Ev S (d + 2) 8 0 [some (.inr (some 1)), some (.inl 6), some (.inl x1)] [] σ _
    refine e_load q_8 rfl rfl rfl ?_
    refine e_getR q_8 rfl rfl rfl ?_
    refine e_load q_8 rfl rfl rfl ?_
    refine e_push q_8 rfl ?_
    refine e_bin (r := 6 * 8) q_8 rfl rfl ?_
    refine e_load q_8 rfl rfl rfl ?_
    refine e_bin (r := (6 * 8) + x1) q_8 rfl rfl ?_
    obtain ⟨j3, hjj3, hlj3, h⟩ := h
    refine e_iald q_8 rfl rfl (by decide) hjj3 hlj3 ?_
    refine e_ireturn q_8 rfl rfl ?_
    show Ev S (d + 3) 116 21 [some (.inr (some 0)), some (.inl x1), some (.inl x2), some (.inl (σ 2 j2)), none, none] [.inl (σ 2 j3)] σ _
    refine e_store (ls' := [some (.inr (some 0)), some (.inl x1), some (.inl x2), some (.inl (σ 2 j2)), some (.inl (σ 2 j3)), none]) q_116 rfl (Nat.le_of_ble_eq_true rfl) rfl rfl ?_
    refine e_load q_116 rfl rfl rfl ?_
    refine e_push q_116 rfl ?_
    refine e_icmp (P := (σ 2 j2) = (-1)) q_116 rfl m_c0 (fun c => ?_) (fun c => ?_)
    · replace h := h.1 c
      refine e_push q_116 rfl ?_
      refine e_store (ls' := [some (.inr (some 0)), some (.inl x1), some (.inl x2), some (.inl (σ 2 j2)), some (.inl (σ 2 j3)), some (.inl 0)]) q_116 rfl (Nat.le_of_ble_eq_true rfl) rfl rfl ?_
      refine e_load q_116 rfl rfl rfl ?_
      refine e_push q_116 rfl ?_
      refine e_icmp (P := (σ 2 j3) = (-1)) q_116 rfl m_c0 (fun c => ?_) (fun c => ?_)
      · replace h := h.1 c
        refine e_load q_116 rfl rfl rfl ?_
        exact e_ireturn q_116 rfl rfl h
      · replace h := h.2 c
        refine e_load q_116 rfl rfl rfl ?_
        refine e_load q_116 rfl rfl rfl ?_
        refine e_icmp (P := x2 < (σ 2 j3)) q_116 rfl m_c4 (fun c => ?_) (fun c => ?_)
        · replace h := h.1 c
          refine e_load q_116 rfl rfl rfl ?_
          exact e_ireturn q_116 rfl rfl h
        · replace h := h.2 c
          refine e_load q_116 rfl rfl rfl ?_
          refine e_push q_116 rfl ?_
          refine e_bin (r := 0 + 1) q_116 rfl rfl ?_
          refine e_goto q_116 rfl ?_
          exact e_ireturn q_116 rfl rfl h
    · replace h := h.2 c
      refine e_load q_116 rfl rfl rfl ?_
      refine e_load q_116 rfl rfl rfl ?_
      refine e_icmp (P := x2 < (σ 2 j2)) q_116 rfl m_c4 (fun c => ?_) (fun c => ?_)
      · replace h := h.1 c
        refine e_push q_116 rfl ?_
        refine e_store (ls' := [some (.inr (some 0)), some (.inl x1), some (.inl x2), some (.inl (σ 2 j2)), some (.inl (σ 2 j3)), some (.inl 0)]) q_116 rfl (Nat.le_of_ble_eq_true rfl) rfl rfl ?_
        refine e_load q_116 rfl rfl rfl ?_
        refine e_push q_116 rfl ?_
        refine e_icmp (P := (σ 2 j3) = (-1)) q_116 rfl m_c0 (fun c => ?_) (fun c => ?_)
        · replace h := h.1 c
          refine e_load q_116 rfl rfl rfl ?_
          exact e_ireturn q_116 rfl rfl h
        · replace h := h.2 c
          refine e_load q_116 rfl rfl rfl ?_
          refine e_load q_116 rfl rfl rfl ?_
          refine e_icmp (P := x2 < (σ 2 j3)) q_116 rfl m_c4 (fun c => ?_) (fun c => ?_)
          · replace h := h.1 c
            refine e_load q_116 rfl rfl rfl ?_
            exact e_ireturn q_116 rfl rfl h
          · replace h := h.2 c
            refine e_load q_116 rfl rfl rfl ?_
            refine e_push q_116 rfl ?_
            refine e_bin (r := 0 + 1) q_116 rfl rfl ?_
            refine e_goto q_116 rfl ?_
            exact e_ireturn q_116 rfl rfl h
      · replace h := h.2 c
        refine e_load q_116 rfl rfl rfl ?_
        refine e_getR q_116 rfl rfl rfl ?_
        refine e_push q_116 rfl ?_
        refine e_load q_116 rfl rfl rfl ?_
        refine e_virt q_116 rfl rfl (Nat.le_of_ble_eq_true rfl) rfl rfl (Nat.le_of_ble_eq_true rfl) rfl ?_
        show Ev S (d + 2) 8 0 [some (.inr (some 1)), some (.inl 1), some (.inl x1)] [] σ _
        refine e_load q_8 rfl rfl rfl ?_
        refine e_getR q_8 rfl rfl rfl ?_
        refine e_load q_8 rfl rfl rfl ?_
        refine e_push q_8 rfl ?_
        refine e_bin (r := 1 * 8) q_8 rfl rfl ?_
        refine e_load q_8 rfl rfl rfl ?_
        refine e_bin (r := (1 * 8) + x1) q_8 rfl rfl ?_
        obtain ⟨j4, hjj4, hlj4, h⟩ := h
        refine e_iald q_8 rfl rfl (by decide) hjj4 hlj4 ?_
        refine e_ireturn q_8 rfl rfl ?_
        show Ev S (d + 3) 116 33 [some (.inr (some 0)), some (.inl x1), some (.inl x2), some (.inl (σ 2 j2)), some (.inl (σ 2 j3)), none] [.inl (σ 2 j4)] σ _
        refine e_goto q_116 rfl ?_
        refine e_store (ls' := [some (.inr (some 0)), some (.inl x1), some (.inl x2), some (.inl (σ 2 j2)), some (.inl (σ 2 j3)), some (.inl (σ 2 j4))]) q_116 rfl (Nat.le_of_ble_eq_true rfl) rfl rfl ?_
        refine e_load q_116 rfl rfl rfl ?_
        refine e_push q_116 rfl ?_
        refine e_icmp (P := (σ 2 j3) = (-1)) q_116 rfl m_c0 (fun c => ?_) (fun c => ?_)
        · replace h := h.1 c
          refine e_load q_116 rfl rfl rfl ?_
          exact e_ireturn q_116 rfl rfl h
        · replace h := h.2 c
          refine e_load q_116 rfl rfl rfl ?_
          refine e_load q_116 rfl rfl rfl ?_
          refine e_icmp (P := x2 < (σ 2 j3)) q_116 rfl m_c4 (fun c => ?_) (fun c => ?_)
          · replace h := h.1 c
            refine e_load q_116 rfl rfl rfl ?_
            exact e_ireturn q_116 rfl rfl h
          · replace h := h.2 c
            refine e_load q_116 rfl rfl rfl ?_
            refine e_push q_116 rfl ?_
            refine e_bin (r := (σ 2 j4) + 1) q_116 rfl rfl ?_
            refine e_goto q_116 rfl ?_
            exact e_ireturn q_116 rfl rfl h
  · replace h := h.2 c
    refine e_push q_12 rfl ?_
    refine e_goto q_12 rfl ?_
    refine e_zreturn q_12 rfl rfl (by decide) ?_
    show Ev S (d + 3) 116 4 [some (.inr (some 0)), some (.inl x1), some (.inl x2), none, none, none] [.inl 1] σ _
    refine e_if (P := (1 : Int32) = 0) q_116 rfl m_c0 (fun c => absurd c (by decide)) (fun _ => ?_)
    refine e_load q_116 rfl rfl rfl ?_
    refine e_getR q_116 rfl rfl rfl ?_
    refine e_load q_116 rfl rfl rfl ?_
    exact e_virt q_116 rfl rfl (Nat.le_of_ble_eq_true rfl) rfl rfl (Nat.le_of_ble_eq_true rfl) rfl h
theorem g_116_9 {S : Nat × (Nat → Int32)} {d : Nat} {σ : Mem} {Q : MQ1} {o0 : Option MV} {o1 : Option MV} {o2 : Option MV} {o3 : Option MV} {o4 : Option MV} {o5 : Option MV} {y0 : Int32}  (h : Q [.inl y0] σ) : Ev S (d + 3) 116 9 [o0, o1, o2, o3, o4, o5] [.inl y0] σ Q := by
  exact e_ireturn q_116 rfl rfl h
