theorem q_75 : m_code 75 = mc_75 := rfl
theorem g_75_0 {S : Nat × (Nat → Int32)} {d : Nat} {σ : Mem} {Q : MQ1} {x1 : Int32} {x2 : Int32}  (h : Ec S d 107 [.inl x1] σ (fun rv σ' => Ev S (d + 1) 75 2 [some (.inr (some 0)), some (.inl x1), some (.inl x2)] (rv ++ []) σ' Q)) : Ev S (d + 1) 75 0 [some (.inr (some 0)), some (.inl x1), some (.inl x2)] [] σ Q := by
  refine e_load q_75 rfl rfl rfl ?_
  exact e_stat q_75 rfl (Nat.le_of_ble_eq_true rfl) rfl rfl (Nat.le_of_ble_eq_true rfl) h
theorem g_75_2 {S : Nat × (Nat → Int32)} {d : Nat} {σ : Mem} {Q : MQ1} {x1 : Int32} {x2 : Int32} {y0 : Int32}  (h : (((¬ y0 = 0) → Ec S d 105 [.inr (some 0), .inl (-100001)] σ (fun rv σ' => Ev S (d + 1) 75 12 [some (.inr (some 0)), some (.inl x1), some (.inl x2)] (rv ++ []) σ' Q)) ∧ (¬ (¬ y0 = 0) → ((x2 < 1 → Ec S d 105 [.inr (some 0), .inl (-100001)] σ (fun rv σ' => Ev S (d + 1) 75 12 [some (.inr (some 0)), some (.inl x1), some (.inl x2)] (rv ++ []) σ' Q)) ∧ (¬ (x2 < 1) → ((x2 ≤ 9 → Ec S d 7 [.inr (some 1)] σ (fun rv σ' => Ev S (d + 1) 75 16 [some (.inr (some 0)), some (.inl x1), some (.inl x2)] (rv ++ []) σ' Q)) ∧ (¬ (x2 ≤ 9) → Ec S d 105 [.inr (some 0), .inl (-100001)] σ (fun rv σ' => Ev S (d + 1) 75 12 [some (.inr (some 0)), some (.inl x1), some (.inl x2)] (rv ++ []) σ' Q)))))))) : Ev S (d + 1) 75 2 [some (.inr (some 0)), some (.inl x1), some (.inl x2)] [.inl y0] σ Q := by
  refine e_if (P := ¬ y0 = 0) q_75 rfl m_c1 (fun c => ?_) (fun c => ?_)
  · replace h := h.1 c
    refine e_load q_75 rfl rfl rfl ?_
    refine e_push q_75 rfl ?_
    exact e_virt q_75 rfl rfl (Nat.le_of_ble_eq_true rfl) rfl rfl (Nat.le_of_ble_eq_true rfl) rfl h
  · replace h := h.2 c
    refine e_load q_75 rfl rfl rfl ?_
    refine e_push q_75 rfl ?_
    refine e_icmp (P := x2 < 1) q_75 rfl m_c2 (fun c => ?_) (fun c => ?_)
    · replace h := h.1 c
      refine e_load q_75 rfl rfl rfl ?_
      refine e_push q_75 rfl ?_
      exact e_virt q_75 rfl rfl (Nat.le_of_ble_eq_true rfl) rfl rfl (Nat.le_of_ble_eq_true rfl) rfl h
    · replace h := h.2 c
      refine e_load q_75 rfl rfl rfl ?_
      refine e_push q_75 rfl ?_
      refine e_icmp (P := x2 ≤ 9) q_75 rfl m_c5 (fun c => ?_) (fun c => ?_)
      · replace h := h.1 c
        refine e_load q_75 rfl rfl rfl ?_
        refine e_getR q_75 rfl rfl rfl ?_
        exact e_virt q_75 rfl rfl (Nat.le_of_ble_eq_true rfl) rfl rfl (Nat.le_of_ble_eq_true rfl) rfl h
      · replace h := h.2 c
        refine e_load q_75 rfl rfl rfl ?_
        refine e_push q_75 rfl ?_
        exact e_virt q_75 rfl rfl (Nat.le_of_ble_eq_true rfl) rfl rfl (Nat.le_of_ble_eq_true rfl) rfl h
theorem g_75_12 {S : Nat × (Nat → Int32)} {d : Nat} {σ : Mem} {Q : MQ1} {o0 : Option MV} {o1 : Option MV} {o2 : Option MV} {y0 : Int32}  (h : Q [.inl y0] σ) : Ev S (d + 1) 75 12 [o0, o1, o2] [.inl y0] σ Q := by
  exact e_ireturn q_75 rfl rfl h
theorem g_75_16 {S : Nat × (Nat → Int32)} {d : Nat} {σ : Mem} {Q : MQ1} {x1 : Int32} {x2 : Int32} {y0 : Int32}  (h : ((y0 < 8 → Ec S d 26 [.inr (some 24), .inr (some 1)] σ (fun rv σ' => Ev S (d + 1) 75 27 [some (.inr (some 0)), some (.inl x1), some (.inl x2)] (rv ++ []) σ' Q)) ∧ (¬ (y0 < 8) → Ec S d 105 [.inr (some 0), .inl (-100005)] σ (fun rv σ' => Ev S (d + 1) 75 21 [some (.inr (some 0)), some (.inl x1), some (.inl x2)] (rv ++ []) σ' Q)))) : Ev S (d + 1) 75 16 [some (.inr (some 0)), some (.inl x1), some (.inl x2)] [.inl y0] σ Q := by
  refine e_push q_75 rfl ?_
  refine e_icmp (P := y0 < 8) q_75 rfl m_c2 (fun c => ?_) (fun c => ?_)
  · replace h := h.1 c
    refine e_load q_75 rfl rfl rfl ?_
    refine e_getR q_75 rfl rfl rfl ?_
    refine e_load q_75 rfl rfl rfl ?_
    refine e_getR q_75 rfl rfl rfl ?_
    exact e_virt q_75 rfl rfl (Nat.le_of_ble_eq_true rfl) rfl rfl (Nat.le_of_ble_eq_true rfl) rfl h
  · replace h := h.2 c
    refine e_load q_75 rfl rfl rfl ?_
    refine e_push q_75 rfl ?_
    exact e_virt q_75 rfl rfl (Nat.le_of_ble_eq_true rfl) rfl rfl (Nat.le_of_ble_eq_true rfl) rfl h
theorem g_75_27 {S : Nat × (Nat → Int32)} {d : Nat} {σ : Mem} {Q : MQ1} {x1 : Int32} {x2 : Int32}  (h : Ec S d 10 [.inr (some 1), .inl x1, .inl x2] σ (fun rv σ' => Ev S (d + 1) 75 32 [some (.inr (some 0)), some (.inl x1), some (.inl x2)] (rv ++ []) σ' Q)) : Ev S (d + 1) 75 27 [some (.inr (some 0)), some (.inl x1), some (.inl x2)] [] σ Q := by
  refine e_load q_75 rfl rfl rfl ?_
  refine e_getR q_75 rfl rfl rfl ?_
  refine e_load q_75 rfl rfl rfl ?_
  refine e_load q_75 rfl rfl rfl ?_
  exact e_virt q_75 rfl rfl (Nat.le_of_ble_eq_true rfl) rfl rfl (Nat.le_of_ble_eq_true rfl) rfl h
theorem g_75_21 {S : Nat × (Nat → Int32)} {d : Nat} {σ : Mem} {Q : MQ1} {o0 : Option MV} {o1 : Option MV} {o2 : Option MV} {y0 : Int32}  (h : Q [.inl y0] σ) : Ev S (d + 1) 75 21 [o0, o1, o2] [.inl y0] σ Q := by
  exact e_ireturn q_75 rfl rfl h
theorem g_75_32 {S : Nat × (Nat → Int32)} {d : Nat} {σ : Mem} {Q : MQ1} {o0 : Option MV} {o1 : Option MV} {o2 : Option MV} {y0 : Int32}  (h : Q [.inl y0] σ) : Ev S (d + 1) 75 32 [o0, o1, o2] [.inl y0] σ Q := by
  exact e_ireturn q_75 rfl rfl h
theorem q_76 : m_code 76 = mc_76 := rfl
theorem g_76_0 {S : Nat × (Nat → Int32)} {d : Nat} {σ : Mem} {Q : MQ1} {x1 : Int32} {x2 : Int32}  (h : Ec S d 106 [.inr (some 0), .inl x1] σ (fun rv σ' => Ev S (d + 1) 76 3 [some (.inr (some 0)), some (.inl x1), some (.inl x2)] (rv ++ []) σ' Q)) : Ev S (d + 1) 76 0 [some (.inr (some 0)), some (.inl x1), some (.inl x2)] [] σ Q := by
  refine e_load q_76 rfl rfl rfl ?_
  refine e_load q_76 rfl rfl rfl ?_
  exact e_virt q_76 rfl rfl (Nat.le_of_ble_eq_true rfl) rfl rfl (Nat.le_of_ble_eq_true rfl) rfl h
theorem g_76_3 {S : Nat × (Nat → Int32)} {d : Nat} {σ : Mem} {Q : MQ1} {x1 : Int32} {x2 : Int32} {y0 : Int32}  (h : (((¬ y0 = 0) → Ec S d 105 [.inr (some 0), .inl (-100001)] σ (fun rv σ' => Ev S (d + 1) 76 10 [some (.inr (some 0)), some (.inl x1), some (.inl x2)] (rv ++ []) σ' Q)) ∧ (¬ (¬ y0 = 0) → Ec S d 107 [.inl x2] σ (fun rv σ' => Ev S (d + 1) 76 6 [some (.inr (some 0)), some (.inl x1), some (.inl x2)] (rv ++ []) σ' Q)))) : Ev S (d + 1) 76 3 [some (.inr (some 0)), some (.inl x1), some (.inl x2)] [.inl y0] σ Q := by
  refine e_if (P := ¬ y0 = 0) q_76 rfl m_c1 (fun c => ?_) (fun c => ?_)
  · replace h := h.1 c
    refine e_load q_76 rfl rfl rfl ?_
    refine e_push q_76 rfl ?_
    exact e_virt q_76 rfl rfl (Nat.le_of_ble_eq_true rfl) rfl rfl (Nat.le_of_ble_eq_true rfl) rfl h
  · replace h := h.2 c
    refine e_load q_76 rfl rfl rfl ?_
    exact e_stat q_76 rfl (Nat.le_of_ble_eq_true rfl) rfl rfl (Nat.le_of_ble_eq_true rfl) h
theorem g_76_10 {S : Nat × (Nat → Int32)} {d : Nat} {σ : Mem} {Q : MQ1} {o0 : Option MV} {o1 : Option MV} {o2 : Option MV} {y0 : Int32}  (h : Q [.inl y0] σ) : Ev S (d + 1) 76 10 [o0, o1, o2] [.inl y0] σ Q := by
  exact e_ireturn q_76 rfl rfl h
theorem g_76_6 {S : Nat × (Nat → Int32)} {d : Nat} {σ : Mem} {Q : MQ1} {x1 : Int32} {x2 : Int32} {y0 : Int32}  (h : ((y0 = 0 → Ec S d 11 [.inr (some 1), .inl x1, .inl x2] σ (fun rv σ' => Ev S (d + 1) 76 16 [some (.inr (some 0)), some (.inl x1), some (.inl x2)] (rv ++ []) σ' Q)) ∧ (¬ (y0 = 0) → Ec S d 105 [.inr (some 0), .inl (-100001)] σ (fun rv σ' => Ev S (d + 1) 76 10 [some (.inr (some 0)), some (.inl x1), some (.inl x2)] (rv ++ []) σ' Q)))) : Ev S (d + 1) 76 6 [some (.inr (some 0)), some (.inl x1), some (.inl x2)] [.inl y0] σ Q := by
  refine e_if (P := y0 = 0) q_76 rfl m_c0 (fun c => ?_) (fun c => ?_)
  · replace h := h.1 c
    refine e_load q_76 rfl rfl rfl ?_
    refine e_getR q_76 rfl rfl rfl ?_
    refine e_load q_76 rfl rfl rfl ?_
    refine e_load q_76 rfl rfl rfl ?_
    exact e_virt q_76 rfl rfl (Nat.le_of_ble_eq_true rfl) rfl rfl (Nat.le_of_ble_eq_true rfl) rfl h
  · replace h := h.2 c
    refine e_load q_76 rfl rfl rfl ?_
    refine e_push q_76 rfl ?_
    exact e_virt q_76 rfl rfl (Nat.le_of_ble_eq_true rfl) rfl rfl (Nat.le_of_ble_eq_true rfl) rfl h
theorem g_76_16 {S : Nat × (Nat → Int32)} {d : Nat} {σ : Mem} {Q : MQ1} {x1 : Int32} {o2 : Option MV} {y0 : Int32}  (h : ((y0 = 0 → Ec S d 105 [.inr (some 0), .inl (-100004)] σ (fun rv σ' => Ev S (d + 1) 76 22 [some (.inr (some 0)), some (.inl x1), o2] (rv ++ []) σ' Q)) ∧ (¬ (y0 = 0) → Q [.inl x1] σ))) : Ev S (d + 1) 76 16 [some (.inr (some 0)), some (.inl x1), o2] [.inl y0] σ Q := by
  refine e_if (P := y0 = 0) q_76 rfl m_c0 (fun c => ?_) (fun c => ?_)
  · replace h := h.1 c
    refine e_load q_76 rfl rfl rfl ?_
    refine e_push q_76 rfl ?_
    exact e_virt q_76 rfl rfl (Nat.le_of_ble_eq_true rfl) rfl rfl (Nat.le_of_ble_eq_true rfl) rfl h
  · replace h := h.2 c
    refine e_load q_76 rfl rfl rfl ?_
    refine e_goto q_76 rfl ?_
    exact e_ireturn q_76 rfl rfl h
theorem g_76_22 {S : Nat × (Nat → Int32)} {d : Nat} {σ : Mem} {Q : MQ1} {o0 : Option MV} {o1 : Option MV} {o2 : Option MV} {y0 : Int32}  (h : Q [.inl y0] σ) : Ev S (d + 1) 76 22 [o0, o1, o2] [.inl y0] σ Q := by
  exact e_ireturn q_76 rfl rfl h
theorem q_77 : m_code 77 = mc_77 := rfl
theorem g_77_0 {S : Nat × (Nat → Int32)} {d : Nat} {σ : Mem} {Q : MQ1} {x1 : Int32} {x2 : Int32} {x3 : Int32}  (h : Ec S d 106 [.inr (some 0), .inl x1] σ (fun rv σ' => Ev S (d + 1) 77 3 [some (.inr (some 0)), some (.inl x1), some (.inl x2), some (.inl x3), none, none] (rv ++ []) σ' Q)) : Ev S (d + 1) 77 0 [some (.inr (some 0)), some (.inl x1), some (.inl x2), some (.inl x3), none, none] [] σ Q := by
  refine e_load q_77 rfl rfl rfl ?_
  refine e_load q_77 rfl rfl rfl ?_
  exact e_virt q_77 rfl rfl (Nat.le_of_ble_eq_true rfl) rfl rfl (Nat.le_of_ble_eq_true rfl) rfl h
theorem g_77_3 {S : Nat × (Nat → Int32)} {d : Nat} {σ : Mem} {Q : MQ1} {x1 : Int32} {x2 : Int32} {x3 : Int32} {o4 : Option MV} {o5 : Option MV} {y0 : Int32}  (h : (((¬ y0 = 0) → Ec S d 105 [.inr (some 0), .inl (-100001)] σ (fun rv σ' => Ev S (d + 1) 77 11 [some (.inr (some 0)), some (.inl x1), some (.inl x2), some (.inl x3), o4, o5] (rv ++ []) σ' Q)) ∧ (¬ (¬ y0 = 0) → Ec S d 106 [.inr (some 0), .inl x2] σ (fun rv σ' => Ev S (d + 1) 77 7 [some (.inr (some 0)), some (.inl x1), some (.inl x2), some (.inl x3), o4, o5] (rv ++ []) σ' Q)))) : Ev S (d + 1) 77 3 [some (.inr (some 0)), some (.inl x1), some (.inl x2), some (.inl x3), o4, o5] [.inl y0] σ Q := by
  refine e_if (P := ¬ y0 = 0) q_77 rfl m_c1 (fun c => ?_) (fun c => ?_)
  · replace h := h.1 c
    refine e_load q_77 rfl rfl rfl ?_
    refine e_push q_77 rfl ?_
    exact e_virt q_77 rfl rfl (Nat.le_of_ble_eq_true rfl) rfl rfl (Nat.le_of_ble_eq_true rfl) rfl h
  · replace h := h.2 c
    refine e_load q_77 rfl rfl rfl ?_
    refine e_load q_77 rfl rfl rfl ?_
    exact e_virt q_77 rfl rfl (Nat.le_of_ble_eq_true rfl) rfl rfl (Nat.le_of_ble_eq_true rfl) rfl h
theorem g_77_11 {S : Nat × (Nat → Int32)} {d : Nat} {σ : Mem} {Q : MQ1} {o0 : Option MV} {o1 : Option MV} {o2 : Option MV} {o3 : Option MV} {o4 : Option MV} {o5 : Option MV} {y0 : Int32}  (h : Q [.inl y0] σ) : Ev S (d + 1) 77 11 [o0, o1, o2, o3, o4, o5] [.inl y0] σ Q := by
  exact e_ireturn q_77 rfl rfl h
theorem g_77_7 {S : Nat × (Nat → Int32)} {d : Nat} {σ : Mem} {Q : MQ1} {x1 : Int32} {x2 : Int32} {x3 : Int32} {o4 : Option MV} {o5 : Option MV} {y0 : Int32}  (h : ((y0 = 0 → ((x3 = 0 → Ec S d 26 [.inr (some 24), .inr (some 1)] σ (fun rv σ' => Ev S (d + 1) 77 35 [some (.inr (some 0)), some (.inl x1), some (.inl x2), some (.inl x3), o4, o5] (rv ++ []) σ' Q)) ∧ (¬ (x3 = 0) → ((x1 = x2 → Ec S d 105 [.inr (some 0), .inl (-100007)] σ (fun rv σ' => Ev S (d + 1) 77 29 [some (.inr (some 0)), some (.inl x1), some (.inl x2), some (.inl x3), o4, o5] (rv ++ []) σ' Q)) ∧ (¬ (x1 = x2) → Ec S d 15 [.inr (some 1), .inl (1 <<< (x2 &&& 31))] σ (fun rv σ' => Ev S (d + 1) 77 23 [some (.inr (some 0)), some (.inl x1), some (.inl x2), some (.inl x3), o4, o5] (rv ++ []) σ' Q)))))) ∧ (¬ (y0 = 0) → Ec S d 105 [.inr (some 0), .inl (-100001)] σ (fun rv σ' => Ev S (d + 1) 77 11 [some (.inr (some 0)), some (.inl x1), some (.inl x2), some (.inl x3), o4, o5] (rv ++ []) σ' Q)))) : Ev S (d + 1) 77 7 [some (.inr (some 0)), some (.inl x1), some (.inl x2), some (.inl x3), o4, o5] [.inl y0] σ Q := by
  refine e_if (P := y0 = 0) q_77 rfl m_c0 (fun c => ?_) (fun c => ?_)
  · replace h := h.1 c
    refine e_load q_77 rfl rfl rfl ?_
    refine e_if (P := x3 = 0) q_77 rfl m_c0 (fun c => ?_) (fun c => ?_)
    · replace h := h.1 c
      refine e_load q_77 rfl rfl rfl ?_
      refine e_getR q_77 rfl rfl rfl ?_
      refine e_load q_77 rfl rfl rfl ?_
      refine e_getR q_77 rfl rfl rfl ?_
      exact e_virt q_77 rfl rfl (Nat.le_of_ble_eq_true rfl) rfl rfl (Nat.le_of_ble_eq_true rfl) rfl h
    · replace h := h.2 c
      refine e_load q_77 rfl rfl rfl ?_
      refine e_load q_77 rfl rfl rfl ?_
      refine e_icmp (P := x1 = x2) q_77 rfl m_c0 (fun c => ?_) (fun c => ?_)
      · replace h := h.1 c
        refine e_load q_77 rfl rfl rfl ?_
        refine e_push q_77 rfl ?_
        exact e_virt q_77 rfl rfl (Nat.le_of_ble_eq_true rfl) rfl rfl (Nat.le_of_ble_eq_true rfl) rfl h
      · replace h := h.2 c
        refine e_load q_77 rfl rfl rfl ?_
        refine e_getR q_77 rfl rfl rfl ?_
        refine e_push q_77 rfl ?_
        refine e_load q_77 rfl rfl rfl ?_
        refine e_bin (r := 1 <<< (x2 &&& 31)) q_77 rfl rfl ?_
        exact e_virt q_77 rfl rfl (Nat.le_of_ble_eq_true rfl) rfl rfl (Nat.le_of_ble_eq_true rfl) rfl h
  · replace h := h.2 c
    refine e_load q_77 rfl rfl rfl ?_
    refine e_push q_77 rfl ?_
    exact e_virt q_77 rfl rfl (Nat.le_of_ble_eq_true rfl) rfl rfl (Nat.le_of_ble_eq_true rfl) rfl h
theorem g_77_35 {S : Nat × (Nat → Int32)} {d : Nat} {σ : Mem} {Q : MQ1} {x1 : Int32} {x2 : Int32} {x3 : Int32} {o4 : Option MV} {o5 : Option MV}  (h : Ec S d 8 [.inr (some 1), .inl 2, .inl x1] σ (fun rv σ' => Ev S (d + 1) 77 40 [some (.inr (some 0)), some (.inl x1), some (.inl x2), some (.inl x3), o4, o5] (rv ++ []) σ' Q)) : Ev S (d + 1) 77 35 [some (.inr (some 0)), some (.inl x1), some (.inl x2), some (.inl x3), o4, o5] [] σ Q := by
  refine e_load q_77 rfl rfl rfl ?_
  refine e_getR q_77 rfl rfl rfl ?_
  refine e_push q_77 rfl ?_
  refine e_load q_77 rfl rfl rfl ?_
  exact e_virt q_77 rfl rfl (Nat.le_of_ble_eq_true rfl) rfl rfl (Nat.le_of_ble_eq_true rfl) rfl h
theorem g_77_29 {S : Nat × (Nat → Int32)} {d : Nat} {σ : Mem} {Q : MQ1} {o0 : Option MV} {o1 : Option MV} {o2 : Option MV} {o3 : Option MV} {o4 : Option MV} {o5 : Option MV} {y0 : Int32}  (h : Q [.inl y0] σ) : Ev S (d + 1) 77 29 [o0, o1, o2, o3, o4, o5] [.inl y0] σ Q := by
  exact e_ireturn q_77 rfl rfl h
theorem g_77_23 {S : Nat × (Nat → Int32)} {d : Nat} {σ : Mem} {Q : MQ1} {x1 : Int32} {x2 : Int32} {x3 : Int32} {o4 : Option MV} {o5 : Option MV} {y0 : Int32}  (h : Ec S d 110 [.inl y0, .inl x1] σ (fun rv σ' => Ev S (d + 1) 77 25 [some (.inr (some 0)), some (.inl x1), some (.inl x2), some (.inl x3), o4, o5] (rv ++ []) σ' Q)) : Ev S (d + 1) 77 23 [some (.inr (some 0)), some (.inl x1), some (.inl x2), some (.inl x3), o4, o5] [.inl y0] σ Q := by
  refine e_load q_77 rfl rfl rfl ?_
  exact e_stat q_77 rfl (Nat.le_of_ble_eq_true rfl) rfl rfl (Nat.le_of_ble_eq_true rfl) h
theorem g_77_40 {S : Nat × (Nat → Int32)} {d : Nat} {σ : Mem} {Q : MQ1} {x1 : Int32} {x2 : Int32} {x3 : Int32} {o4 : Option MV} {o5 : Option MV} {y0 : Int32}  (h : Ec S d 111 [.inl y0, .inl x2, .inl x3] σ (fun rv σ' => Ev S (d + 1) 77 45 [some (.inr (some 0)), some (.inl x1), some (.inl x2), some (.inl x3), some (.inl y0), o5] (rv ++ []) σ' Q)) : Ev S (d + 1) 77 40 [some (.inr (some 0)), some (.inl x1), some (.inl x2), some (.inl x3), o4, o5] [.inl y0] σ Q := by
  refine e_store (ls' := [some (.inr (some 0)), some (.inl x1), some (.inl x2), some (.inl x3), some (.inl y0), o5]) q_77 rfl (Nat.le_of_ble_eq_true rfl) rfl rfl ?_
  refine e_load q_77 rfl rfl rfl ?_
  refine e_load q_77 rfl rfl rfl ?_
  refine e_load q_77 rfl rfl rfl ?_
  exact e_stat q_77 rfl (Nat.le_of_ble_eq_true rfl) rfl rfl (Nat.le_of_ble_eq_true rfl) h
theorem g_77_25 {S : Nat × (Nat → Int32)} {d : Nat} {σ : Mem} {Q : MQ1} {x1 : Int32} {x2 : Int32} {x3 : Int32} {o4 : Option MV} {o5 : Option MV} {y0 : Int32}  (h : ((y0 = 0 → Ec S d 26 [.inr (some 24), .inr (some 1)] σ (fun rv σ' => Ev S (d + 1) 77 35 [some (.inr (some 0)), some (.inl x1), some (.inl x2), some (.inl x3), o4, o5] (rv ++ []) σ' Q)) ∧ (¬ (y0 = 0) → Ec S d 105 [.inr (some 0), .inl (-100007)] σ (fun rv σ' => Ev S (d + 1) 77 29 [some (.inr (some 0)), some (.inl x1), some (.inl x2), some (.inl x3), o4, o5] (rv ++ []) σ' Q)))) : Ev S (d + 1) 77 25 [some (.inr (some 0)), some (.inl x1), some (.inl x2), some (.inl x3), o4, o5] [.inl y0] σ Q := by
  refine e_if (P := y0 = 0) q_77 rfl m_c0 (fun c => ?_) (fun c => ?_)
  · replace h := h.1 c
    refine e_load q_77 rfl rfl rfl ?_
    refine e_getR q_77 rfl rfl rfl ?_
    refine e_load q_77 rfl rfl rfl ?_
    refine e_getR q_77 rfl rfl rfl ?_
    exact e_virt q_77 rfl rfl (Nat.le_of_ble_eq_true rfl) rfl rfl (Nat.le_of_ble_eq_true rfl) rfl h
  · replace h := h.2 c
    refine e_load q_77 rfl rfl rfl ?_
    refine e_push q_77 rfl ?_
    exact e_virt q_77 rfl rfl (Nat.le_of_ble_eq_true rfl) rfl rfl (Nat.le_of_ble_eq_true rfl) rfl h
theorem g_77_45 {S : Nat × (Nat → Int32)} {d : Nat} {σ : Mem} {Q : MQ1} {x1 : Int32} {o2 : Option MV} {o3 : Option MV} {x4 : Int32} {o5 : Option MV} {y0 : Int32}  (h : Ec S d 9 [.inr (some 1), .inl 2, .inl x1, .inl y0] σ (fun rv σ' => Ev S (d + 1) 77 52 [some (.inr (some 0)), some (.inl x1), o2, o3, some (.inl x4), some (.inl y0)] (rv ++ []) σ' Q)) : Ev S (d + 1) 77 45 [some (.inr (some 0)), some (.inl x1), o2, o3, some (.inl x4), o5] [.inl y0] σ Q := by
  refine e_store (ls' := [some (.inr (some 0)), some (.inl x1), o2, o3, some (.inl x4), some (.inl y0)]) q_77 rfl (Nat.le_of_ble_eq_true rfl) rfl rfl ?_
  refine e_load q_77 rfl rfl rfl ?_
  refine e_getR q_77 rfl rfl rfl ?_
  refine e_push q_77 rfl ?_
  refine e_load q_77 rfl rfl rfl ?_
  refine e_load q_77 rfl rfl rfl ?_
  exact e_virt q_77 rfl rfl (Nat.le_of_ble_eq_true rfl) rfl rfl (Nat.le_of_ble_eq_true rfl) rfl h
theorem g_77_52 {S : Nat × (Nat → Int32)} {d : Nat} {σ : Mem} {Q : MQ1} {o0 : Option MV} {o1 : Option MV} {o2 : Option MV} {o3 : Option MV} {x4 : Int32} {x5 : Int32}  (h : (((¬ x4 = x5) → Q [.inl 1] σ) ∧ (¬ (¬ x4 = x5) → Q [.inl 0] σ))) : Ev S (d + 1) 77 52 [o0, o1, o2, o3, some (.inl x4), some (.inl x5)] [] σ Q := by
  refine e_load q_77 rfl rfl rfl ?_
  refine e_load q_77 rfl rfl rfl ?_
  refine e_icmp (P := ¬ x4 = x5) q_77 rfl m_c1 (fun c => ?_) (fun c => ?_)
  · replace h := h.1 c
    refine e_push q_77 rfl ?_
    exact e_ireturn q_77 rfl rfl h
  · replace h := h.2 c
    refine e_push q_77 rfl ?_
    refine e_goto q_77 rfl ?_
    exact e_ireturn q_77 rfl rfl h
theorem q_78 : m_code 78 = mc_78 := rfl
theorem g_78_0 {S : Nat × (Nat → Int32)} {d : Nat} {σ : Mem} {Q : MQ1} {x1 : Int32} {x2 : Int32}  (h : Ec S d 106 [.inr (some 0), .inl x1] σ (fun rv σ' => Ev S (d + 1) 78 3 [some (.inr (some 0)), some (.inl x1), some (.inl x2)] (rv ++ []) σ' Q)) : Ev S (d + 1) 78 0 [some (.inr (some 0)), some (.inl x1), some (.inl x2)] [] σ Q := by
  refine e_load q_78 rfl rfl rfl ?_
  refine e_load q_78 rfl rfl rfl ?_
  exact e_virt q_78 rfl rfl (Nat.le_of_ble_eq_true rfl) rfl rfl (Nat.le_of_ble_eq_true rfl) rfl h
theorem g_78_3 {S : Nat × (Nat → Int32)} {d : Nat} {σ : Mem} {Q : MQ1} {x1 : Int32} {x2 : Int32} {y0 : Int32}  (h : (((¬ y0 = 0) → Ec S d 105 [.inr (some 0), .inl (-100001)] σ (fun rv σ' => Ev S (d + 1) 78 12 [some (.inr (some 0)), some (.inl x1), some (.inl x2)] (rv ++ []) σ' Q)) ∧ (¬ (¬ y0 = 0) → ((x2 < 0 → Ec S d 105 [.inr (some 0), .inl (-100001)] σ (fun rv σ' => Ev S (d + 1) 78 12 [some (.inr (some 0)), some (.inl x1), some (.inl x2)] (rv ++ []) σ' Q)) ∧ (¬ (x2 < 0) → ((x2 ≤ 9 → Ec S d 12 [.inr (some 1), .inl x1] σ (fun rv σ' => Ev S (d + 1) 78 17 [some (.inr (some 0)), some (.inl x1), some (.inl x2)] (rv ++ []) σ' Q)) ∧ (¬ (x2 ≤ 9) → Ec S d 105 [.inr (some 0), .inl (-100001)] σ (fun rv σ' => Ev S (d + 1) 78 12 [some (.inr (some 0)), some (.inl x1), some (.inl x2)] (rv ++ []) σ' Q)))))))) : Ev S (d + 1) 78 3 [some (.inr (some 0)), some (.inl x1), some (.inl x2)] [.inl y0] σ Q := by
  refine e_if (P := ¬ y0 = 0) q_78 rfl m_c1 (fun c => ?_) (fun c => ?_)
  · replace h := h.1 c
    refine e_load q_78 rfl rfl rfl ?_
    refine e_push q_78 rfl ?_
    exact e_virt q_78 rfl rfl (Nat.le_of_ble_eq_true rfl) rfl rfl (Nat.le_of_ble_eq_true rfl) rfl h
  · replace h := h.2 c
    refine e_load q_78 rfl rfl rfl ?_
    refine e_if (P := x2 < 0) q_78 rfl m_c2 (fun c => ?_) (fun c => ?_)
    · replace h := h.1 c
      refine e_load q_78 rfl rfl rfl ?_
      refine e_push q_78 rfl ?_
      exact e_virt q_78 rfl rfl (Nat.le_of_ble_eq_true rfl) rfl rfl (Nat.le_of_ble_eq_true rfl) rfl h
    · replace h := h.2 c
      refine e_load q_78 rfl rfl rfl ?_
      refine e_push q_78 rfl ?_
      refine e_icmp (P := x2 ≤ 9) q_78 rfl m_c5 (fun c => ?_) (fun c => ?_)
      · replace h := h.1 c
        refine e_load q_78 rfl rfl rfl ?_
        refine e_getR q_78 rfl rfl rfl ?_
        refine e_load q_78 rfl rfl rfl ?_
        exact e_virt q_78 rfl rfl (Nat.le_of_ble_eq_true rfl) rfl rfl (Nat.le_of_ble_eq_true rfl) rfl h
      · replace h := h.2 c
        refine e_load q_78 rfl rfl rfl ?_
        refine e_push q_78 rfl ?_
        exact e_virt q_78 rfl rfl (Nat.le_of_ble_eq_true rfl) rfl rfl (Nat.le_of_ble_eq_true rfl) rfl h
theorem g_78_12 {S : Nat × (Nat → Int32)} {d : Nat} {σ : Mem} {Q : MQ1} {o0 : Option MV} {o1 : Option MV} {o2 : Option MV} {y0 : Int32}  (h : Q [.inl y0] σ) : Ev S (d + 1) 78 12 [o0, o1, o2] [.inl y0] σ Q := by
  exact e_ireturn q_78 rfl rfl h
theorem g_78_17 {S : Nat × (Nat → Int32)} {d : Nat} {σ : Mem} {Q : MQ1} {x1 : Int32} {x2 : Int32} {y0 : Int32}  (h : ((y0 = 0 → Ec S d 112 [.inr (some 0), .inl 3, .inl x1, .inl x2] σ (fun rv σ' => Ev S (d + 1) 78 27 [some (.inr (some 0)), some (.inl x1), some (.inl x2)] (rv ++ []) σ' Q)) ∧ (¬ (y0 = 0) → Ec S d 105 [.inr (some 0), .inl (-100004)] σ (fun rv σ' => Ev S (d + 1) 78 21 [some (.inr (some 0)), some (.inl x1), some (.inl x2)] (rv ++ []) σ' Q)))) : Ev S (d + 1) 78 17 [some (.inr (some 0)), some (.inl x1), some (.inl x2)] [.inl y0] σ Q := by
  refine e_if (P := y0 = 0) q_78 rfl m_c0 (fun c => ?_) (fun c => ?_)
  · replace h := h.1 c
    refine e_load q_78 rfl rfl rfl ?_
    refine e_push q_78 rfl ?_
    refine e_load q_78 rfl rfl rfl ?_
    refine e_load q_78 rfl rfl rfl ?_
    exact e_virt q_78 rfl rfl (Nat.le_of_ble_eq_true rfl) rfl rfl (Nat.le_of_ble_eq_true rfl) rfl h
  · replace h := h.2 c
    refine e_load q_78 rfl rfl rfl ?_
    refine e_push q_78 rfl ?_
    exact e_virt q_78 rfl rfl (Nat.le_of_ble_eq_true rfl) rfl rfl (Nat.le_of_ble_eq_true rfl) rfl h
theorem g_78_27 {S : Nat × (Nat → Int32)} {d : Nat} {σ : Mem} {Q : MQ1} {o0 : Option MV} {o1 : Option MV} {o2 : Option MV} {y0 : Int32}  (h : Q [.inl y0] σ) : Ev S (d + 1) 78 27 [o0, o1, o2] [.inl y0] σ Q := by
  exact e_ireturn q_78 rfl rfl h
theorem g_78_21 {S : Nat × (Nat → Int32)} {d : Nat} {σ : Mem} {Q : MQ1} {o0 : Option MV} {o1 : Option MV} {o2 : Option MV} {y0 : Int32}  (h : Q [.inl y0] σ) : Ev S (d + 1) 78 21 [o0, o1, o2] [.inl y0] σ Q := by
  exact e_ireturn q_78 rfl rfl h
theorem q_79 : m_code 79 = mc_79 := rfl
theorem g_79_0 {S : Nat × (Nat → Int32)} {d : Nat} {σ : Mem} {Q : MQ1} {x1 : Int32} {x2 : Int32}  (h : Ec S d 106 [.inr (some 0), .inl x1] σ (fun rv σ' => Ev S (d + 1) 79 3 [some (.inr (some 0)), some (.inl x1), some (.inl x2)] (rv ++ []) σ' Q)) : Ev S (d + 1) 79 0 [some (.inr (some 0)), some (.inl x1), some (.inl x2)] [] σ Q := by
  refine e_load q_79 rfl rfl rfl ?_
  refine e_load q_79 rfl rfl rfl ?_
  exact e_virt q_79 rfl rfl (Nat.le_of_ble_eq_true rfl) rfl rfl (Nat.le_of_ble_eq_true rfl) rfl h
theorem g_79_3 {S : Nat × (Nat → Int32)} {d : Nat} {σ : Mem} {Q : MQ1} {x1 : Int32} {x2 : Int32} {y0 : Int32}  (h : (((¬ y0 = 0) → Ec S d 105 [.inr (some 0), .inl (-100001)] σ (fun rv σ' => Ev S (d + 1) 79 12 [some (.inr (some 0)), some (.inl x1), some (.inl x2)] (rv ++ []) σ' Q)) ∧ (¬ (¬ y0 = 0) → ((x2 < 0 → Ec S d 105 [.inr (some 0), .inl (-100001)] σ (fun rv σ' => Ev S (d + 1) 79 12 [some (.inr (some 0)), some (.inl x1), some (.inl x2)] (rv ++ []) σ' Q)) ∧ (¬ (x2 < 0) → ((x2 ≤ 65535 → Ec S d 112 [.inr (some 0), .inl 4, .inl x1, .inl x2] σ (fun rv σ' => Ev S (d + 1) 79 18 [some (.inr (some 0)), some (.inl x1), some (.inl x2)] (rv ++ []) σ' Q)) ∧ (¬ (x2 ≤ 65535) → Ec S d 105 [.inr (some 0), .inl (-100001)] σ (fun rv σ' => Ev S (d + 1) 79 12 [some (.inr (some 0)), some (.inl x1), some (.inl x2)] (rv ++ []) σ' Q)))))))) : Ev S (d + 1) 79 3 [some (.inr (some 0)), some (.inl x1), some (.inl x2)] [.inl y0] σ Q := by
  refine e_if (P := ¬ y0 = 0) q_79 rfl m_c1 (fun c => ?_) (fun c => ?_)
  · replace h := h.1 c
    refine e_load q_79 rfl rfl rfl ?_
    refine e_push q_79 rfl ?_
    exact e_virt q_79 rfl rfl (Nat.le_of_ble_eq_true rfl) rfl rfl (Nat.le_of_ble_eq_true rfl) rfl h
  · replace h := h.2 c
    refine e_load q_79 rfl rfl rfl ?_
    refine e_if (P := x2 < 0) q_79 rfl m_c2 (fun c => ?_) (fun c => ?_)
    · replace h := h.1 c
      refine e_load q_79 rfl rfl rfl ?_
      refine e_push q_79 rfl ?_
      exact e_virt q_79 rfl rfl (Nat.le_of_ble_eq_true rfl) rfl rfl (Nat.le_of_ble_eq_true rfl) rfl h
    · replace h := h.2 c
      refine e_load q_79 rfl rfl rfl ?_
      refine e_push q_79 rfl ?_
      refine e_icmp (P := x2 ≤ 65535) q_79 rfl m_c5 (fun c => ?_) (fun c => ?_)
      · replace h := h.1 c
        refine e_load q_79 rfl rfl rfl ?_
        refine e_push q_79 rfl ?_
        refine e_load q_79 rfl rfl rfl ?_
        refine e_load q_79 rfl rfl rfl ?_
        exact e_virt q_79 rfl rfl (Nat.le_of_ble_eq_true rfl) rfl rfl (Nat.le_of_ble_eq_true rfl) rfl h
      · replace h := h.2 c
        refine e_load q_79 rfl rfl rfl ?_
        refine e_push q_79 rfl ?_
        exact e_virt q_79 rfl rfl (Nat.le_of_ble_eq_true rfl) rfl rfl (Nat.le_of_ble_eq_true rfl) rfl h
theorem g_79_12 {S : Nat × (Nat → Int32)} {d : Nat} {σ : Mem} {Q : MQ1} {o0 : Option MV} {o1 : Option MV} {o2 : Option MV} {y0 : Int32}  (h : Q [.inl y0] σ) : Ev S (d + 1) 79 12 [o0, o1, o2] [.inl y0] σ Q := by
  exact e_ireturn q_79 rfl rfl h
theorem g_79_18 {S : Nat × (Nat → Int32)} {d : Nat} {σ : Mem} {Q : MQ1} {o0 : Option MV} {o1 : Option MV} {o2 : Option MV} {y0 : Int32}  (h : Q [.inl y0] σ) : Ev S (d + 1) 79 18 [o0, o1, o2] [.inl y0] σ Q := by
  exact e_ireturn q_79 rfl rfl h
theorem q_80 : m_code 80 = mc_80 := rfl
theorem g_80_0 {S : Nat × (Nat → Int32)} {d : Nat} {σ : Mem} {Q : MQ1} {x1 : Int32} {x2 : Int32}  (h : Ec S d 106 [.inr (some 0), .inl x1] σ (fun rv σ' => Ev S (d + 1) 80 3 [some (.inr (some 0)), some (.inl x1), some (.inl x2)] (rv ++ []) σ' Q)) : Ev S (d + 1) 80 0 [some (.inr (some 0)), some (.inl x1), some (.inl x2)] [] σ Q := by
  refine e_load q_80 rfl rfl rfl ?_
  refine e_load q_80 rfl rfl rfl ?_
  exact e_virt q_80 rfl rfl (Nat.le_of_ble_eq_true rfl) rfl rfl (Nat.le_of_ble_eq_true rfl) rfl h
theorem g_80_3 {S : Nat × (Nat → Int32)} {d : Nat} {σ : Mem} {Q : MQ1} {x1 : Int32} {x2 : Int32} {y0 : Int32}  (h : (((¬ y0 = 0) → Ec S d 105 [.inr (some 0), .inl (-100001)] σ (fun rv σ' => Ev S (d + 1) 80 14 [some (.inr (some 0)), some (.inl x1), some (.inl x2)] (rv ++ []) σ' Q)) ∧ (¬ (¬ y0 = 0) → ((x2 = (-1) → Ec S d 11 [.inr (some 1), .inl x1, .inl 3] σ (fun rv σ' => Ev S (d + 1) 80 20 [some (.inr (some 0)), some (.inl x1), some (.inl x2)] (rv ++ []) σ' Q)) ∧ (¬ (x2 = (-1)) → Ec S d 106 [.inr (some 0), .inl x2] σ (fun rv σ' => Ev S (d + 1) 80 10 [some (.inr (some 0)), some (.inl x1), some (.inl x2)] (rv ++ []) σ' Q)))))) : Ev S (d + 1) 80 3 [some (.inr (some 0)), some (.inl x1), some (.inl x2)] [.inl y0] σ Q := by
  refine e_if (P := ¬ y0 = 0) q_80 rfl m_c1 (fun c => ?_) (fun c => ?_)
  · replace h := h.1 c
    refine e_load q_80 rfl rfl rfl ?_
    refine e_push q_80 rfl ?_
    exact e_virt q_80 rfl rfl (Nat.le_of_ble_eq_true rfl) rfl rfl (Nat.le_of_ble_eq_true rfl) rfl h
  · replace h := h.2 c
    refine e_load q_80 rfl rfl rfl ?_
    refine e_push q_80 rfl ?_
    refine e_icmp (P := x2 = (-1)) q_80 rfl m_c0 (fun c => ?_) (fun c => ?_)
    · replace h := h.1 c
      refine e_load q_80 rfl rfl rfl ?_
      refine e_getR q_80 rfl rfl rfl ?_
      refine e_load q_80 rfl rfl rfl ?_
      refine e_push q_80 rfl ?_
      exact e_virt q_80 rfl rfl (Nat.le_of_ble_eq_true rfl) rfl rfl (Nat.le_of_ble_eq_true rfl) rfl h
    · replace h := h.2 c
      refine e_load q_80 rfl rfl rfl ?_
      refine e_load q_80 rfl rfl rfl ?_
      exact e_virt q_80 rfl rfl (Nat.le_of_ble_eq_true rfl) rfl rfl (Nat.le_of_ble_eq_true rfl) rfl h
theorem g_80_14 {S : Nat × (Nat → Int32)} {d : Nat} {σ : Mem} {Q : MQ1} {o0 : Option MV} {o1 : Option MV} {o2 : Option MV} {y0 : Int32}  (h : Q [.inl y0] σ) : Ev S (d + 1) 80 14 [o0, o1, o2] [.inl y0] σ Q := by
  exact e_ireturn q_80 rfl rfl h
theorem g_80_20 {S : Nat × (Nat → Int32)} {d : Nat} {σ : Mem} {Q : MQ1} {x1 : Int32} {x2 : Int32} {y0 : Int32}  (h : (((¬ y0 = 0) → (((¬ x1 = x2) → Ec S d 112 [.inr (some 0), .inl 8, .inl x1, .inl x2] σ (fun rv σ' => Ev S (d + 1) 80 37 [some (.inr (some 0)), some (.inl x1), some (.inl x2)] (rv ++ []) σ' Q)) ∧ (¬ (¬ x1 = x2) → Ec S d 105 [.inr (some 0), .inl (-100003)] σ (fun rv σ' => Ev S (d + 1) 80 31 [some (.inr (some 0)), some (.inl x1), some (.inl x2)] (rv ++ []) σ' Q)))) ∧ (¬ (¬ y0 = 0) → Ec S d 105 [.inr (some 0), .inl (-100004)] σ (fun rv σ' => Ev S (d + 1) 80 24 [some (.inr (some 0)), some (.inl x1), some (.inl x2)] (rv ++ []) σ' Q)))) : Ev S (d + 1) 80 20 [some (.inr (some 0)), some (.inl x1), some (.inl x2)] [.inl y0] σ Q := by
  refine e_if (P := ¬ y0 = 0) q_80 rfl m_c1 (fun c => ?_) (fun c => ?_)
  · replace h := h.1 c
    refine e_load q_80 rfl rfl rfl ?_
    refine e_load q_80 rfl rfl rfl ?_
    refine e_icmp (P := ¬ x1 = x2) q_80 rfl m_c1 (fun c => ?_) (fun c => ?_)
    · replace h := h.1 c
      refine e_load q_80 rfl rfl rfl ?_
      refine e_push q_80 rfl ?_
      refine e_load q_80 rfl rfl rfl ?_
      refine e_load q_80 rfl rfl rfl ?_
      exact e_virt q_80 rfl rfl (Nat.le_of_ble_eq_true rfl) rfl rfl (Nat.le_of_ble_eq_true rfl) rfl h
    · replace h := h.2 c
      refine e_load q_80 rfl rfl rfl ?_
      refine e_push q_80 rfl ?_
      exact e_virt q_80 rfl rfl (Nat.le_of_ble_eq_true rfl) rfl rfl (Nat.le_of_ble_eq_true rfl) rfl h
  · replace h := h.2 c
    refine e_load q_80 rfl rfl rfl ?_
    refine e_push q_80 rfl ?_
    exact e_virt q_80 rfl rfl (Nat.le_of_ble_eq_true rfl) rfl rfl (Nat.le_of_ble_eq_true rfl) rfl h
theorem g_80_10 {S : Nat × (Nat → Int32)} {d : Nat} {σ : Mem} {Q : MQ1} {x1 : Int32} {x2 : Int32} {y0 : Int32}  (h : ((y0 = 0 → Ec S d 11 [.inr (some 1), .inl x1, .inl 3] σ (fun rv σ' => Ev S (d + 1) 80 20 [some (.inr (some 0)), some (.inl x1), some (.inl x2)] (rv ++ []) σ' Q)) ∧ (¬ (y0 = 0) → Ec S d 105 [.inr (some 0), .inl (-100001)] σ (fun rv σ' => Ev S (d + 1) 80 14 [some (.inr (some 0)), some (.inl x1), some (.inl x2)] (rv ++ []) σ' Q)))) : Ev S (d + 1) 80 10 [some (.inr (some 0)), some (.inl x1), some (.inl x2)] [.inl y0] σ Q := by
  refine e_if (P := y0 = 0) q_80 rfl m_c0 (fun c => ?_) (fun c => ?_)
  · replace h := h.1 c
    refine e_load q_80 rfl rfl rfl ?_
    refine e_getR q_80 rfl rfl rfl ?_
    refine e_load q_80 rfl rfl rfl ?_
    refine e_push q_80 rfl ?_
    exact e_virt q_80 rfl rfl (Nat.le_of_ble_eq_true rfl) rfl rfl (Nat.le_of_ble_eq_true rfl) rfl h
  · replace h := h.2 c
    refine e_load q_80 rfl rfl rfl ?_
    refine e_push q_80 rfl ?_
    exact e_virt q_80 rfl rfl (Nat.le_of_ble_eq_true rfl) rfl rfl (Nat.le_of_ble_eq_true rfl) rfl h
theorem g_80_37 {S : Nat × (Nat → Int32)} {d : Nat} {σ : Mem} {Q : MQ1} {o0 : Option MV} {o1 : Option MV} {o2 : Option MV} {y0 : Int32}  (h : Q [.inl y0] σ) : Ev S (d + 1) 80 37 [o0, o1, o2] [.inl y0] σ Q := by
  exact e_ireturn q_80 rfl rfl h
theorem g_80_31 {S : Nat × (Nat → Int32)} {d : Nat} {σ : Mem} {Q : MQ1} {o0 : Option MV} {o1 : Option MV} {o2 : Option MV} {y0 : Int32}  (h : Q [.inl y0] σ) : Ev S (d + 1) 80 31 [o0, o1, o2] [.inl y0] σ Q := by
  exact e_ireturn q_80 rfl rfl h
theorem g_80_24 {S : Nat × (Nat → Int32)} {d : Nat} {σ : Mem} {Q : MQ1} {o0 : Option MV} {o1 : Option MV} {o2 : Option MV} {y0 : Int32}  (h : Q [.inl y0] σ) : Ev S (d + 1) 80 24 [o0, o1, o2] [.inl y0] σ Q := by
  exact e_ireturn q_80 rfl rfl h
theorem q_81 : m_code 81 = mc_81 := rfl
theorem g_81_0 {S : Nat × (Nat → Int32)} {d : Nat} {σ : Mem} {Q : MQ1} {x1 : Int32} {x2 : Int32}  (h : Ec S d 106 [.inr (some 0), .inl x1] σ (fun rv σ' => Ev S (d + 1) 81 3 [some (.inr (some 0)), some (.inl x1), some (.inl x2)] (rv ++ []) σ' Q)) : Ev S (d + 1) 81 0 [some (.inr (some 0)), some (.inl x1), some (.inl x2)] [] σ Q := by
  refine e_load q_81 rfl rfl rfl ?_
  refine e_load q_81 rfl rfl rfl ?_
  exact e_virt q_81 rfl rfl (Nat.le_of_ble_eq_true rfl) rfl rfl (Nat.le_of_ble_eq_true rfl) rfl h
theorem g_81_3 {S : Nat × (Nat → Int32)} {d : Nat} {σ : Mem} {Q : MQ1} {x1 : Int32} {x2 : Int32} {y0 : Int32}  (h : (((¬ y0 = 0) → Ec S d 105 [.inr (some 0), .inl (-100001)] σ (fun rv σ' => Ev S (d + 1) 81 12 [some (.inr (some 0)), some (.inl x1), some (.inl x2)] (rv ++ []) σ' Q)) ∧ (¬ (¬ y0 = 0) → ((x2 < 0 → Ec S d 105 [.inr (some 0), .inl (-100001)] σ (fun rv σ' => Ev S (d + 1) 81 12 [some (.inr (some 0)), some (.inl x1), some (.inl x2)] (rv ++ []) σ' Q)) ∧ (¬ (x2 < 0) → ((x2 ≤ 7 → Ec S d 8 [.inr (some 1), .inl x2, .inl x1] σ (fun rv σ' => Ev S (d + 1) 81 18 [some (.inr (some 0)), some (.inl x1), some (.inl x2)] (rv ++ []) σ' Q)) ∧ (¬ (x2 ≤ 7) → Ec S d 105 [.inr (some 0), .inl (-100001)] σ (fun rv σ' => Ev S (d + 1) 81 12 [some (.inr (some 0)), some (.inl x1), some (.inl x2)] (rv ++ []) σ' Q)))))))) : Ev S (d + 1) 81 3 [some (.inr (some 0)), some (.inl x1), some (.inl x2)] [.inl y0] σ Q := by
  refine e_if (P := ¬ y0 = 0) q_81 rfl m_c1 (fun c => ?_) (fun c => ?_)
  · replace h := h.1 c
    refine e_load q_81 rfl rfl rfl ?_
    refine e_push q_81 rfl ?_
    exact e_virt q_81 rfl rfl (Nat.le_of_ble_eq_true rfl) rfl rfl (Nat.le_of_ble_eq_true rfl) rfl h
  · replace h := h.2 c
    refine e_load q_81 rfl rfl rfl ?_
    refine e_if (P := x2 < 0) q_81 rfl m_c2 (fun c => ?_) (fun c => ?_)
    · replace h := h.1 c
      refine e_load q_81 rfl rfl rfl ?_
      refine e_push q_81 rfl ?_
      exact e_virt q_81 rfl rfl (Nat.le_of_ble_eq_true rfl) rfl rfl (Nat.le_of_ble_eq_true rfl) rfl h
    · replace h := h.2 c
      refine e_load q_81 rfl rfl rfl ?_
      refine e_push q_81 rfl ?_
      refine e_icmp (P := x2 ≤ 7) q_81 rfl m_c5 (fun c => ?_) (fun c => ?_)
      · replace h := h.1 c
        refine e_load q_81 rfl rfl rfl ?_
        refine e_getR q_81 rfl rfl rfl ?_
        refine e_load q_81 rfl rfl rfl ?_
        refine e_load q_81 rfl rfl rfl ?_
        exact e_virt q_81 rfl rfl (Nat.le_of_ble_eq_true rfl) rfl rfl (Nat.le_of_ble_eq_true rfl) rfl h
      · replace h := h.2 c
        refine e_load q_81 rfl rfl rfl ?_
        refine e_push q_81 rfl ?_
        exact e_virt q_81 rfl rfl (Nat.le_of_ble_eq_true rfl) rfl rfl (Nat.le_of_ble_eq_true rfl) rfl h
theorem g_81_12 {S : Nat × (Nat → Int32)} {d : Nat} {σ : Mem} {Q : MQ1} {o0 : Option MV} {o1 : Option MV} {o2 : Option MV} {y0 : Int32}  (h : Q [.inl y0] σ) : Ev S (d + 1) 81 12 [o0, o1, o2] [.inl y0] σ Q := by
  exact e_ireturn q_81 rfl rfl h
theorem g_81_18 {S : Nat × (Nat → Int32)} {d : Nat} {σ : Mem} {Q : MQ1} {o0 : Option MV} {o1 : Option MV} {o2 : Option MV} {y0 : Int32}  (h : Q [.inl y0] σ) : Ev S (d + 1) 81 18 [o0, o1, o2] [.inl y0] σ Q := by
  exact e_ireturn q_81 rfl rfl h
theorem q_82 : m_code 82 = mc_82 := rfl
theorem g_82_0 {S : Nat × (Nat → Int32)} {d : Nat} {σ : Mem} {Q : MQ1} {x1 : Int32} {x2 : Int32}  (h : Ec S d 108 [.inl x1] σ (fun rv σ' => Ev S (d + 1) 82 2 [some (.inr (some 0)), some (.inl x1), some (.inl x2), none] (rv ++ []) σ' Q)) : Ev S (d + 1) 82 0 [some (.inr (some 0)), some (.inl x1), some (.inl x2), none] [] σ Q := by
  refine e_load q_82 rfl rfl rfl ?_
  exact e_stat q_82 rfl (Nat.le_of_ble_eq_true rfl) rfl rfl (Nat.le_of_ble_eq_true rfl) h
theorem g_82_2 {S : Nat × (Nat → Int32)} {d : Nat} {σ : Mem} {Q : MQ1} {x1 : Int32} {x2 : Int32} {o3 : Option MV} {y0 : Int32}  (h : (((¬ y0 = 0) → Ec S d 105 [.inr (some 0), .inl (-100001)] σ (fun rv σ' => Ev S (d + 1) 82 11 [some (.inr (some 0)), some (.inl x1), some (.inl x2), o3] (rv ++ []) σ' Q)) ∧ (¬ (¬ y0 = 0) → ((x2 < 0 → Ec S d 105 [.inr (some 0), .inl (-100001)] σ (fun rv σ' => Ev S (d + 1) 82 11 [some (.inr (some 0)), some (.inl x1), some (.inl x2), o3] (rv ++ []) σ' Q)) ∧ (¬ (x2 < 0) → ((x2 ≤ 40 → Ec S d 26 [.inr (some 24), .inr (some 1)] σ (fun rv σ' => Ev S (d + 1) 82 17 [some (.inr (some 0)), some (.inl x1), some (.inl x2), o3] (rv ++ []) σ' Q)) ∧ (¬ (x2 ≤ 40) → Ec S d 105 [.inr (some 0), .inl (-100001)] σ (fun rv σ' => Ev S (d + 1) 82 11 [some (.inr (some 0)), some (.inl x1), some (.inl x2), o3] (rv ++ []) σ' Q)))))))) : Ev S (d + 1) 82 2 [some (.inr (some 0)), some (.inl x1), some (.inl x2), o3] [.inl y0] σ Q := by
  refine e_if (P := ¬ y0 = 0) q_82 rfl m_c1 (fun c => ?_) (fun c => ?_)
  · replace h := h.1 c
    refine e_load q_82 rfl rfl rfl ?_
    refine e_push q_82 rfl ?_
    exact e_virt q_82 rfl rfl (Nat.le_of_ble_eq_true rfl) rfl rfl (Nat.le_of_ble_eq_true rfl) rfl h
  · replace h := h.2 c
    refine e_load q_82 rfl rfl rfl ?_
    refine e_if (P := x2 < 0) q_82 rfl m_c2 (fun c => ?_) (fun c => ?_)
    · replace h := h.1 c
      refine e_load q_82 rfl rfl rfl ?_
      refine e_push q_82 rfl ?_
      exact e_virt q_82 rfl rfl (Nat.le_of_ble_eq_true rfl) rfl rfl (Nat.le_of_ble_eq_true rfl) rfl h
    · replace h := h.2 c
      refine e_load q_82 rfl rfl rfl ?_
      refine e_push q_82 rfl ?_
      refine e_icmp (P := x2 ≤ 40) q_82 rfl m_c5 (fun c => ?_) (fun c => ?_)
      · replace h := h.1 c
        refine e_load q_82 rfl rfl rfl ?_
        refine e_getR q_82 rfl rfl rfl ?_
        refine e_load q_82 rfl rfl rfl ?_
        refine e_getR q_82 rfl rfl rfl ?_
        exact e_virt q_82 rfl rfl (Nat.le_of_ble_eq_true rfl) rfl rfl (Nat.le_of_ble_eq_true rfl) rfl h
      · replace h := h.2 c
        refine e_load q_82 rfl rfl rfl ?_
        refine e_push q_82 rfl ?_
        exact e_virt q_82 rfl rfl (Nat.le_of_ble_eq_true rfl) rfl rfl (Nat.le_of_ble_eq_true rfl) rfl h
theorem g_82_11 {S : Nat × (Nat → Int32)} {d : Nat} {σ : Mem} {Q : MQ1} {o0 : Option MV} {o1 : Option MV} {o2 : Option MV} {o3 : Option MV} {y0 : Int32}  (h : Q [.inl y0] σ) : Ev S (d + 1) 82 11 [o0, o1, o2, o3] [.inl y0] σ Q := by
  exact e_ireturn q_82 rfl rfl h
theorem g_82_17 {S : Nat × (Nat → Int32)} {d : Nat} {σ : Mem} {Q : MQ1} {x1 : Int32} {x2 : Int32} {o3 : Option MV}  (h : Ec S d 16 [.inr (some 1), .inl x1] σ (fun rv σ' => Ev S (d + 1) 82 21 [some (.inr (some 0)), some (.inl x1), some (.inl x2), o3] (rv ++ []) σ' Q)) : Ev S (d + 1) 82 17 [some (.inr (some 0)), some (.inl x1), some (.inl x2), o3] [] σ Q := by
  refine e_load q_82 rfl rfl rfl ?_
  refine e_getR q_82 rfl rfl rfl ?_
  refine e_load q_82 rfl rfl rfl ?_
  exact e_virt q_82 rfl rfl (Nat.le_of_ble_eq_true rfl) rfl rfl (Nat.le_of_ble_eq_true rfl) rfl h
theorem g_82_21 {S : Nat × (Nat → Int32)} {d : Nat} {σ : Mem} {Q : MQ1} {x1 : Int32} {x2 : Int32} {o3 : Option MV} {y0 : Int32}  (h : Ec S d 17 [.inr (some 1), .inl x1, .inl x2] σ (fun rv σ' => Ev S (d + 1) 82 27 [some (.inr (some 0)), some (.inl x1), some (.inl x2), some (.inl y0)] (rv ++ []) σ' Q)) : Ev S (d + 1) 82 21 [some (.inr (some 0)), some (.inl x1), some (.inl x2), o3] [.inl y0] σ Q := by
  refine e_store (ls' := [some (.inr (some 0)), some (.inl x1), some (.inl x2), some (.inl y0)]) q_82 rfl (Nat.le_of_ble_eq_true rfl) rfl rfl ?_
  refine e_load q_82 rfl rfl rfl ?_
  refine e_getR q_82 rfl rfl rfl ?_
  refine e_load q_82 rfl rfl rfl ?_
  refine e_load q_82 rfl rfl rfl ?_
  exact e_virt q_82 rfl rfl (Nat.le_of_ble_eq_true rfl) rfl rfl (Nat.le_of_ble_eq_true rfl) rfl h
theorem g_82_27 {S : Nat × (Nat → Int32)} {d : Nat} {σ : Mem} {Q : MQ1} {o0 : Option MV} {o1 : Option MV} {o2 : Option MV} {x3 : Int32}  (h : Q [.inl x3] σ) : Ev S (d + 1) 82 27 [o0, o1, o2, some (.inl x3)] [] σ Q := by
  refine e_load q_82 rfl rfl rfl ?_
  exact e_ireturn q_82 rfl rfl h
theorem q_83 : m_code 83 = mc_83 := rfl
theorem g_83_0 {S : Nat × (Nat → Int32)} {d : Nat} {σ : Mem} {Q : MQ1} {x1 : Int32} {x2 : Int32}  (h : Ec S d 108 [.inl x1] σ (fun rv σ' => Ev S (d + 1) 83 2 [some (.inr (some 0)), some (.inl x1), some (.inl x2), none] (rv ++ []) σ' Q)) : Ev S (d + 1) 83 0 [some (.inr (some 0)), some (.inl x1), some (.inl x2), none] [] σ Q := by
  refine e_load q_83 rfl rfl rfl ?_
  exact e_stat q_83 rfl (Nat.le_of_ble_eq_true rfl) rfl rfl (Nat.le_of_ble_eq_true rfl) h
theorem g_83_2 {S : Nat × (Nat → Int32)} {d : Nat} {σ : Mem} {Q : MQ1} {x1 : Int32} {x2 : Int32} {o3 : Option MV} {y0 : Int32}  (h : ((y0 = 0 → Ec S d 26 [.inr (some 24), .inr (some 1)] σ (fun rv σ' => Ev S (d + 1) 83 12 [some (.inr (some 0)), some (.inl x1), some (.inl x2), o3] (rv ++ []) σ' Q)) ∧ (¬ (y0 = 0) → Ec S d 105 [.inr (some 0), .inl (-100001)] σ (fun rv σ' => Ev S (d + 1) 83 6 [some (.inr (some 0)), some (.inl x1), some (.inl x2), o3] (rv ++ []) σ' Q)))) : Ev S (d + 1) 83 2 [some (.inr (some 0)), some (.inl x1), some (.inl x2), o3] [.inl y0] σ Q := by
  refine e_if (P := y0 = 0) q_83 rfl m_c0 (fun c => ?_) (fun c => ?_)
  · replace h := h.1 c
    refine e_load q_83 rfl rfl rfl ?_
    refine e_getR q_83 rfl rfl rfl ?_
    refine e_load q_83 rfl rfl rfl ?_
    refine e_getR q_83 rfl rfl rfl ?_
    exact e_virt q_83 rfl rfl (Nat.le_of_ble_eq_true rfl) rfl rfl (Nat.le_of_ble_eq_true rfl) rfl h
  · replace h := h.2 c
    refine e_load q_83 rfl rfl rfl ?_
    refine e_push q_83 rfl ?_
    exact e_virt q_83 rfl rfl (Nat.le_of_ble_eq_true rfl) rfl rfl (Nat.le_of_ble_eq_true rfl) rfl h
theorem g_83_12 {S : Nat × (Nat → Int32)} {d : Nat} {σ : Mem} {Q : MQ1} {x1 : Int32} {x2 : Int32} {o3 : Option MV}  (h : Ec S d 18 [.inr (some 1), .inl x1] σ (fun rv σ' => Ev S (d + 1) 83 16 [some (.inr (some 0)), some (.inl x1), some (.inl x2), o3] (rv ++ []) σ' Q)) : Ev S (d + 1) 83 12 [some (.inr (some 0)), some (.inl x1), some (.inl x2), o3] [] σ Q := by
  refine e_load q_83 rfl rfl rfl ?_
  refine e_getR q_83 rfl rfl rfl ?_
  refine e_load q_83 rfl rfl rfl ?_
  exact e_virt q_83 rfl rfl (Nat.le_of_ble_eq_true rfl) rfl rfl (Nat.le_of_ble_eq_true rfl) rfl h
theorem g_83_6 {S : Nat × (Nat → Int32)} {d : Nat} {σ : Mem} {Q : MQ1} {o0 : Option MV} {o1 : Option MV} {o2 : Option MV} {o3 : Option MV} {y0 : Int32}  (h : Q [.inl y0] σ) : Ev S (d + 1) 83 6 [o0, o1, o2, o3] [.inl y0] σ Q := by
  exact e_ireturn q_83 rfl rfl h
theorem g_83_16 {S : Nat × (Nat → Int32)} {d : Nat} {σ : Mem} {Q : MQ1} {x1 : Int32} {x2 : Int32} {o3 : Option MV} {y0 : Int32}  (h : ((y0 = x2 → Ec S d 19 [.inr (some 1), .inl x1, .inl x2] σ (fun rv σ' => Ev S (d + 1) 83 27 [some (.inr (some 0)), some (.inl x1), some (.inl x2), some (.inl 0)] (rv ++ []) σ' Q)) ∧ (¬ (y0 = x2) → Ec S d 19 [.inr (some 1), .inl x1, .inl x2] σ (fun rv σ' => Ev S (d + 1) 83 27 [some (.inr (some 0)), some (.inl x1), some (.inl x2), some (.inl 1)] (rv ++ []) σ' Q)))) : Ev S (d + 1) 83 16 [some (.inr (some 0)), some (.inl x1), some (.inl x2), o3] [.inl y0] σ Q := by
  refine e_load q_83 rfl rfl rfl ?_
  refine e_icmp (P := y0 = x2) q_83 rfl m_c0 (fun c => ?_) (fun c => ?_)
  · replace h := h.1 c
    refine e_push q_83 rfl ?_
    refine e_store (ls' := [some (.inr (some 0)), some (.inl x1), some (.inl x2), some (.inl 0)]) q_83 rfl (Nat.le_of_ble_eq_true rfl) rfl rfl ?_
    refine e_load q_83 rfl rfl rfl ?_
    refine e_getR q_83 rfl rfl rfl ?_
    refine e_load q_83 rfl rfl rfl ?_
    refine e_load q_83 rfl rfl rfl ?_
    exact e_virt q_83 rfl rfl (Nat.le_of_ble_eq_true rfl) rfl rfl (Nat.le_of_ble_eq_true rfl) rfl h
  · replace h := h.2 c
    refine e_push q_83 rfl ?_
    refine e_goto q_83 rfl ?_
    refine e_store (ls' := [some (.inr (some 0)), some (.inl x1), some (.inl x2), some (.inl 1)]) q_83 rfl (Nat.le_of_ble_eq_true rfl) rfl rfl ?_
    refine e_load q_83 rfl rfl rfl ?_
    refine e_getR q_83 rfl rfl rfl ?_
    refine e_load q_83 rfl rfl rfl ?_
    refine e_load q_83 rfl rfl rfl ?_
    exact e_virt q_83 rfl rfl (Nat.le_of_ble_eq_true rfl) rfl rfl (Nat.le_of_ble_eq_true rfl) rfl h
theorem g_83_27 {S : Nat × (Nat → Int32)} {d : Nat} {σ : Mem} {Q : MQ1} {o0 : Option MV} {o1 : Option MV} {o2 : Option MV} {x3 : Int32}  (h : ((x3 = 0 → Q [.inl 0] σ) ∧ (¬ (x3 = 0) → Q [.inl 1] σ))) : Ev S (d + 1) 83 27 [o0, o1, o2, some (.inl x3)] [] σ Q := by
  refine e_load q_83 rfl rfl rfl ?_
  refine e_if (P := x3 = 0) q_83 rfl m_c0 (fun c => ?_) (fun c => ?_)
  · replace h := h.1 c
    refine e_push q_83 rfl ?_
    exact e_ireturn q_83 rfl rfl h
  · replace h := h.2 c
    refine e_push q_83 rfl ?_
    refine e_goto q_83 rfl ?_
    exact e_ireturn q_83 rfl rfl h
theorem q_84 : m_code 84 = mc_84 := rfl
theorem g_84_0 {S : Nat × (Nat → Int32)} {d : Nat} {σ : Mem} {Q : MQ1} {x1 : Int32}  (h : ((x1 < 0 → Ec S d 105 [.inr (some 0), .inl (-100001)] σ (fun rv σ' => Ev S (d + 1) 84 8 [some (.inr (some 0)), some (.inl x1), none] (rv ++ []) σ' Q)) ∧ (¬ (x1 < 0) → ((x1 ≤ 6 → Ec S d 26 [.inr (some 24), .inr (some 1)] σ (fun rv σ' => Ev S (d + 1) 84 14 [some (.inr (some 0)), some (.inl x1), none] (rv ++ []) σ' Q)) ∧ (¬ (x1 ≤ 6) → Ec S d 105 [.inr (some 0), .inl (-100001)] σ (fun rv σ' => Ev S (d + 1) 84 8 [some (.inr (some 0)), some (.inl x1), none] (rv ++ []) σ' Q)))))) : Ev S (d + 1) 84 0 [some (.inr (some 0)), some (.inl x1), none] [] σ Q := by
  refine e_load q_84 rfl rfl rfl ?_
  refine e_if (P := x1 < 0) q_84 rfl m_c2 (fun c => ?_) (fun c => ?_)
  · replace h := h.1 c
    refine e_load q_84 rfl rfl rfl ?_
    refine e_push q_84 rfl ?_
    exact e_virt q_84 rfl rfl (Nat.le_of_ble_eq_true rfl) rfl rfl (Nat.le_of_ble_eq_true rfl) rfl h
  · replace h := h.2 c
    refine e_load q_84 rfl rfl rfl ?_
    refine e_push q_84 rfl ?_
    refine e_icmp (P := x1 ≤ 6) q_84 rfl m_c5 (fun c => ?_) (fun c => ?_)
    · replace h := h.1 c
      refine e_load q_84 rfl rfl rfl ?_
      refine e_getR q_84 rfl rfl rfl ?_
      refine e_load q_84 rfl rfl rfl ?_
      refine e_getR q_84 rfl rfl rfl ?_
      exact e_virt q_84 rfl rfl (Nat.le_of_ble_eq_true rfl) rfl rfl (Nat.le_of_ble_eq_true rfl) rfl h
    · replace h := h.2 c
      refine e_load q_84 rfl rfl rfl ?_
      refine e_push q_84 rfl ?_
      exact e_virt q_84 rfl rfl (Nat.le_of_ble_eq_true rfl) rfl rfl (Nat.le_of_ble_eq_true rfl) rfl h
theorem g_84_8 {S : Nat × (Nat → Int32)} {d : Nat} {σ : Mem} {Q : MQ1} {o0 : Option MV} {o1 : Option MV} {o2 : Option MV} {y0 : Int32}  (h : Q [.inl y0] σ) : Ev S (d + 1) 84 8 [o0, o1, o2] [.inl y0] σ Q := by
  exact e_ireturn q_84 rfl rfl h
theorem g_84_14 {S : Nat × (Nat → Int32)} {d : Nat} {σ : Mem} {Q : MQ1} {x1 : Int32} {o2 : Option MV}  (h : Ec S d 22 [.inr (some 1)] σ (fun rv σ' => Ev S (d + 1) 84 17 [some (.inr (some 0)), some (.inl x1), o2] (rv ++ []) σ' Q)) : Ev S (d + 1) 84 14 [some (.inr (some 0)), some (.inl x1), o2] [] σ Q := by
  refine e_load q_84 rfl rfl rfl ?_
  refine e_getR q_84 rfl rfl rfl ?_
  exact e_virt q_84 rfl rfl (Nat.le_of_ble_eq_true rfl) rfl rfl (Nat.le_of_ble_eq_true rfl) rfl h
theorem g_84_17 {S : Nat × (Nat → Int32)} {d : Nat} {σ : Mem} {Q : MQ1} {x1 : Int32} {o2 : Option MV} {y0 : Int32}  (h : Ec S d 23 [.inr (some 1), .inl x1] σ (fun rv σ' => Ev S (d + 1) 84 22 [some (.inr (some 0)), some (.inl x1), some (.inl y0)] (rv ++ []) σ' Q)) : Ev S (d + 1) 84 17 [some (.inr (some 0)), some (.inl x1), o2] [.inl y0] σ Q := by
  refine e_store (ls' := [some (.inr (some 0)), some (.inl x1), some (.inl y0)]) q_84 rfl (Nat.le_of_ble_eq_true rfl) rfl rfl ?_
  refine e_load q_84 rfl rfl rfl ?_
  refine e_getR q_84 rfl rfl rfl ?_
  refine e_load q_84 rfl rfl rfl ?_
  exact e_virt q_84 rfl rfl (Nat.le_of_ble_eq_true rfl) rfl rfl (Nat.le_of_ble_eq_true rfl) rfl h
theorem g_84_22 {S : Nat × (Nat → Int32)} {d : Nat} {σ : Mem} {Q : MQ1} {o0 : Option MV} {o1 : Option MV} {x2 : Int32}  (h : Q [.inl x2] σ) : Ev S (d + 1) 84 22 [o0, o1, some (.inl x2)] [] σ Q := by
  refine e_load q_84 rfl rfl rfl ?_
  exact e_ireturn q_84 rfl rfl h
theorem q_85 : m_code 85 = mc_85 := rfl
theorem g_85_0 {S : Nat × (Nat → Int32)} {d : Nat} {σ : Mem} {Q : MQ1} {x1 : Int32} {x2 : Int32} {x3 : Int32}  (h : Ec S d 109 [.inl x1] σ (fun rv σ' => Ev S (d + 1) 85 2 [some (.inr (some 0)), some (.inl x1), some (.inl x2), some (.inl x3)] (rv ++ []) σ' Q)) : Ev S (d + 1) 85 0 [some (.inr (some 0)), some (.inl x1), some (.inl x2), some (.inl x3)] [] σ Q := by
  refine e_load q_85 rfl rfl rfl ?_
  exact e_stat q_85 rfl (Nat.le_of_ble_eq_true rfl) rfl rfl (Nat.le_of_ble_eq_true rfl) h
theorem g_85_2 {S : Nat × (Nat → Int32)} {d : Nat} {σ : Mem} {Q : MQ1} {x1 : Int32} {x2 : Int32} {x3 : Int32} {y0 : Int32}  (h : (((¬ y0 = 0) → Ec S d 105 [.inr (some 0), .inl (-100001)] σ (fun rv σ' => Ev S (d + 1) 85 17 [some (.inr (some 0)), some (.inl x1), some (.inl x2), some (.inl x3)] (rv ++ []) σ' Q)) ∧ (¬ (¬ y0 = 0) → ((x2 = 0 → ((0 ≤ x3 → ((x3 ≤ 6 → (∃ j1 r2 r2n : Nat, x1 = nI j1 ∧ ([52, 54, 56, 58] : List Nat)[j1]? = some r2 ∧ isSt r2 r2n ∧ Ec S d 66 [.inr (some r2), .inl x2, .inl x3] σ (fun rv σ' => Ev S (d + 1) 85 38 [some (.inr (some 0)), some (.inl x1), some (.inl x2), some (.inl x3)] (rv ++ []) σ' Q))) ∧ (¬ (x3 ≤ 6) → Ec S d 105 [.inr (some 0), .inl (-100001)] σ (fun rv σ' => Ev S (d + 1) 85 30 [some (.inr (some 0)), some (.inl x1), some (.inl x2), some (.inl x3)] (rv ++ []) σ' Q)))) ∧ (¬ (0 ≤ x3) → Ec S d 105 [.inr (some 0), .inl (-100003)] σ (fun rv σ' => Ev S (d + 1) 85 23 [some (.inr (some 0)), some (.inl x1), some (.inl x2), some (.inl x3)] (rv ++ []) σ' Q)))) ∧ (¬ (x2 = 0) → ((x2 = 8 → ((0 ≤ x3 → ((x3 ≤ 6 → (∃ j3 r4 r4n : Nat, x1 = nI j3 ∧ ([52, 54, 56, 58] : List Nat)[j3]? = some r4 ∧ isSt r4 r4n ∧ Ec S d 66 [.inr (some r4), .inl x2, .inl x3] σ (fun rv σ' => Ev S (d + 1) 85 38 [some (.inr (some 0)), some (.inl x1), some (.inl x2), some (.inl x3)] (rv ++ []) σ' Q))) ∧ (¬ (x3 ≤ 6) → Ec S d 105 [.inr (some 0), .inl (-100001)] σ (fun rv σ' => Ev S (d + 1) 85 30 [some (.inr (some 0)), some (.inl x1), some (.inl x2), some (.inl x3)] (rv ++ []) σ' Q)))) ∧ (¬ (0 ≤ x3) → Ec S d 105 [.inr (some 0), .inl (-100003)] σ (fun rv σ' => Ev S (d + 1) 85 23 [some (.inr (some 0)), some (.inl x1), some (.inl x2), some (.inl x3)] (rv ++ []) σ' Q)))) ∧ (¬ (x2 = 8) → ((x2 = 16 → ((0 ≤ x3 → ((x3 ≤ 6 → (∃ j5 r6 r6n : Nat, x1 = nI j5 ∧ ([52, 54, 56, 58] : List Nat)[j5]? = some r6 ∧ isSt r6 r6n ∧ Ec S d 66 [.inr (some r6), .inl x2, .inl x3] σ (fun rv σ' => Ev S (d + 1) 85 38 [some (.inr (some 0)), some (.inl x1), some (.inl x2), some (.inl x3)] (rv ++ []) σ' Q))) ∧ (¬ (x3 ≤ 6) → Ec S d 105 [.inr (some 0), .inl (-100001)] σ (fun rv σ' => Ev S (d + 1) 85 30 [some (.inr (some 0)), some (.inl x1), some (.inl x2), some (.inl x3)] (rv ++ []) σ' Q)))) ∧ (¬ (0 ≤ x3) → Ec S d 105 [.inr (some 0), .inl (-100003)] σ (fun rv σ' => Ev S (d + 1) 85 23 [some (.inr (some 0)), some (.inl x1), some (.inl x2), some (.inl x3)] (rv ++ []) σ' Q)))) ∧ (¬ (x2 = 16) → ((x2 = 32 → ((0 ≤ x3 → ((x3 ≤ 6 → (∃ j7 r8 r8n : Nat, x1 = nI j7 ∧ ([52, 54, 56, 58] : List Nat)[j7]? = some r8 ∧ isSt r8 r8n ∧ Ec S d 66 [.inr (some r8), .inl x2, .inl x3] σ (fun rv σ' => Ev S (d + 1) 85 38 [some (.inr (some 0)), some (.inl x1), some (.inl x2), some (.inl x3)] (rv ++ []) σ' Q))) ∧ (¬ (x3 ≤ 6) → Ec S d 105 [.inr (some 0), .inl (-100001)] σ (fun rv σ' => Ev S (d + 1) 85 30 [some (.inr (some 0)), some (.inl x1), some (.inl x2), some (.inl x3)] (rv ++ []) σ' Q)))) ∧ (¬ (0 ≤ x3) → Ec S d 105 [.inr (some 0), .inl (-100003)] σ (fun rv σ' => Ev S (d + 1) 85 23 [some (.inr (some 0)), some (.inl x1), some (.inl x2), some (.inl x3)] (rv ++ []) σ' Q)))) ∧ (¬ (x2 = 32) → Ec S d 105 [.inr (some 0), .inl (-100001)] σ (fun rv σ' => Ev S (d + 1) 85 17 [some (.inr (some 0)), some (.inl x1), some (.inl x2), some (.inl x3)] (rv ++ []) σ' Q)))))))))))) : Ev S (d + 1) 85 2 [some (.inr (some 0)), some (.inl x1), some (.inl x2), some (.inl x3)] [.inl y0] σ Q := by
  refine e_if (P := ¬ y0 = 0) q_85 rfl m_c1 (fun c => ?_) (fun c => ?_)
  · replace h := h.1 c
    refine e_load q_85 rfl rfl rfl ?_
    refine e_push q_85 rfl ?_
    exact e_virt q_85 rfl rfl (Nat.le_of_ble_eq_true rfl) rfl rfl (Nat.le_of_ble_eq_true rfl) rfl h
  · replace h := h.2 c
    refine e_load q_85 rfl rfl rfl ?_
    refine e_if (P := x2 = 0) q_85 rfl m_c0 (fun c => ?_) (fun c => ?_)
    · replace h := h.1 c
      refine e_load q_85 rfl rfl rfl ?_
      refine e_if (P := 0 ≤ x3) q_85 rfl m_c3 (fun c => ?_) (fun c => ?_)
      · replace h := h.1 c
        refine e_load q_85 rfl rfl rfl ?_
        refine e_push q_85 rfl ?_
        refine e_icmp (P := x3 ≤ 6) q_85 rfl m_c5 (fun c => ?_) (fun c => ?_)
        · replace h := h.1 c
          refine e_load q_85 rfl rfl rfl ?_
          refine e_getR q_85 rfl rfl rfl ?_
          refine e_load q_85 rfl rfl rfl ?_
          obtain ⟨j1, r2, r2n, hjj1, hlj1, hr2, h⟩ := h
          refine e_aald q_85 rfl rfl (by decide) hjj1 hlj1 (by have := (List.getElem?_eq_some_iff.mp hlj1).1; simp at this; omega) ?_
          refine e_load q_85 rfl rfl rfl ?_
          refine e_load q_85 rfl rfl rfl ?_
          exact e_virt q_85 rfl rfl (Nat.le_of_ble_eq_true rfl) rfl rfl (Nat.le_of_ble_eq_true rfl) hr2.1 h
        · replace h := h.2 c
          refine e_load q_85 rfl rfl rfl ?_
          refine e_push q_85 rfl ?_
          exact e_virt q_85 rfl rfl (Nat.le_of_ble_eq_true rfl) rfl rfl (Nat.le_of_ble_eq_true rfl) rfl h
      · replace h := h.2 c
        refine e_load q_85 rfl rfl rfl ?_
        refine e_push q_85 rfl ?_
        exact e_virt q_85 rfl rfl (Nat.le_of_ble_eq_true rfl) rfl rfl (Nat.le_of_ble_eq_true rfl) rfl h
    · replace h := h.2 c
      refine e_load q_85 rfl rfl rfl ?_
      refine e_push q_85 rfl ?_
      refine e_icmp (P := x2 = 8) q_85 rfl m_c0 (fun c => ?_) (fun c => ?_)
      · replace h := h.1 c
        refine e_load q_85 rfl rfl rfl ?_
        refine e_if (P := 0 ≤ x3) q_85 rfl m_c3 (fun c => ?_) (fun c => ?_)
        · replace h := h.1 c
          refine e_load q_85 rfl rfl rfl ?_
          refine e_push q_85 rfl ?_
          refine e_icmp (P := x3 ≤ 6) q_85 rfl m_c5 (fun c => ?_) (fun c => ?_)
          · replace h := h.1 c
            refine e_load q_85 rfl rfl rfl ?_
            refine e_getR q_85 rfl rfl rfl ?_
            refine e_load q_85 rfl rfl rfl ?_
            obtain ⟨j3, r4, r4n, hjj3, hlj3, hr4, h⟩ := h
            refine e_aald q_85 rfl rfl (by decide) hjj3 hlj3 (by have := (List.getElem?_eq_some_iff.mp hlj3).1; simp at this; omega) ?_
            refine e_load q_85 rfl rfl rfl ?_
            refine e_load q_85 rfl rfl rfl ?_
            exact e_virt q_85 rfl rfl (Nat.le_of_ble_eq_true rfl) rfl rfl (Nat.le_of_ble_eq_true rfl) hr4.1 h
          · replace h := h.2 c
            refine e_load q_85 rfl rfl rfl ?_
            refine e_push q_85 rfl ?_
            exact e_virt q_85 rfl rfl (Nat.le_of_ble_eq_true rfl) rfl rfl (Nat.le_of_ble_eq_true rfl) rfl h
        · replace h := h.2 c
          refine e_load q_85 rfl rfl rfl ?_
          refine e_push q_85 rfl ?_
          exact e_virt q_85 rfl rfl (Nat.le_of_ble_eq_true rfl) rfl rfl (Nat.le_of_ble_eq_true rfl) rfl h
      · replace h := h.2 c
        refine e_load q_85 rfl rfl rfl ?_
        refine e_push q_85 rfl ?_
        refine e_icmp (P := x2 = 16) q_85 rfl m_c0 (fun c => ?_) (fun c => ?_)
        · replace h := h.1 c
          refine e_load q_85 rfl rfl rfl ?_
          refine e_if (P := 0 ≤ x3) q_85 rfl m_c3 (fun c => ?_) (fun c => ?_)
          · replace h := h.1 c
            refine e_load q_85 rfl rfl rfl ?_
            refine e_push q_85 rfl ?_
            refine e_icmp (P := x3 ≤ 6) q_85 rfl m_c5 (fun c => ?_) (fun c => ?_)
            · replace h := h.1 c
              refine e_load q_85 rfl rfl rfl ?_
              refine e_getR q_85 rfl rfl rfl ?_
              refine e_load q_85 rfl rfl rfl ?_
              obtain ⟨j5, r6, r6n, hjj5, hlj5, hr6, h⟩ := h
              refine e_aald q_85 rfl rfl (by decide) hjj5 hlj5 (by have := (List.getElem?_eq_some_iff.mp hlj5).1; simp at this; omega) ?_
              refine e_load q_85 rfl rfl rfl ?_
              refine e_load q_85 rfl rfl rfl ?_
              exact e_virt q_85 rfl rfl (Nat.le_of_ble_eq_true rfl) rfl rfl (Nat.le_of_ble_eq_true rfl) hr6.1 h
            · replace h := h.2 c
              refine e_load q_85 rfl rfl rfl ?_
              refine e_push q_85 rfl ?_
              exact e_virt q_85 rfl rfl (Nat.le_of_ble_eq_true rfl) rfl rfl (Nat.le_of_ble_eq_true rfl) rfl h
          · replace h := h.2 c
            refine e_load q_85 rfl rfl rfl ?_
            refine e_push q_85 rfl ?_
            exact e_virt q_85 rfl rfl (Nat.le_of_ble_eq_true rfl) rfl rfl (Nat.le_of_ble_eq_true rfl) rfl h
        · replace h := h.2 c
          refine e_load q_85 rfl rfl rfl ?_
          refine e_push q_85 rfl ?_
          refine e_icmp (P := x2 = 32) q_85 rfl m_c0 (fun c => ?_) (fun c => ?_)
          · replace h := h.1 c
            refine e_load q_85 rfl rfl rfl ?_
            refine e_if (P := 0 ≤ x3) q_85 rfl m_c3 (fun c => ?_) (fun c => ?_)
            · replace h := h.1 c
              refine e_load q_85 rfl rfl rfl ?_
              refine e_push q_85 rfl ?_
              refine e_icmp (P := x3 ≤ 6) q_85 rfl m_c5 (fun c => ?_) (fun c => ?_)
              · replace h := h.1 c
                refine e_load q_85 rfl rfl rfl ?_
                refine e_getR q_85 rfl rfl rfl ?_
                refine e_load q_85 rfl rfl rfl ?_
                obtain ⟨j7, r8, r8n, hjj7, hlj7, hr8, h⟩ := h
                refine e_aald q_85 rfl rfl (by decide) hjj7 hlj7 (by have := (List.getElem?_eq_some_iff.mp hlj7).1; simp at this; omega) ?_
                refine e_load q_85 rfl rfl rfl ?_
                refine e_load q_85 rfl rfl rfl ?_
                exact e_virt q_85 rfl rfl (Nat.le_of_ble_eq_true rfl) rfl rfl (Nat.le_of_ble_eq_true rfl) hr8.1 h
              · replace h := h.2 c
                refine e_load q_85 rfl rfl rfl ?_
                refine e_push q_85 rfl ?_
                exact e_virt q_85 rfl rfl (Nat.le_of_ble_eq_true rfl) rfl rfl (Nat.le_of_ble_eq_true rfl) rfl h
            · replace h := h.2 c
              refine e_load q_85 rfl rfl rfl ?_
              refine e_push q_85 rfl ?_
              exact e_virt q_85 rfl rfl (Nat.le_of_ble_eq_true rfl) rfl rfl (Nat.le_of_ble_eq_true rfl) rfl h
          · replace h := h.2 c
            refine e_load q_85 rfl rfl rfl ?_
            refine e_push q_85 rfl ?_
            exact e_virt q_85 rfl rfl (Nat.le_of_ble_eq_true rfl) rfl rfl (Nat.le_of_ble_eq_true rfl) rfl h
theorem g_85_17 {S : Nat × (Nat → Int32)} {d : Nat} {σ : Mem} {Q : MQ1} {o0 : Option MV} {o1 : Option MV} {o2 : Option MV} {o3 : Option MV} {y0 : Int32}  (h : Q [.inl y0] σ) : Ev S (d + 1) 85 17 [o0, o1, o2, o3] [.inl y0] σ Q := by
  exact e_ireturn q_85 rfl rfl h
theorem g_85_38 {S : Nat × (Nat → Int32)} {d : Nat} {σ : Mem} {Q : MQ1} {o0 : Option MV} {o1 : Option MV} {o2 : Option MV} {o3 : Option MV} {y0 : Int32}  (h : Q [.inl y0] σ) : Ev S (d + 1) 85 38 [o0, o1, o2, o3] [.inl y0] σ Q := by
  exact e_ireturn q_85 rfl rfl h
theorem g_85_30 {S : Nat × (Nat → Int32)} {d : Nat} {σ : Mem} {Q : MQ1} {o0 : Option MV} {o1 : Option MV} {o2 : Option MV} {o3 : Option MV} {y0 : Int32}  (h : Q [.inl y0] σ) : Ev S (d + 1) 85 30 [o0, o1, o2, o3] [.inl y0] σ Q := by
  exact e_ireturn q_85 rfl rfl h
theorem g_85_23 {S : Nat × (Nat → Int32)} {d : Nat} {σ : Mem} {Q : MQ1} {o0 : Option MV} {o1 : Option MV} {o2 : Option MV} {o3 : Option MV} {y0 : Int32}  (h : Q [.inl y0] σ) : Ev S (d + 1) 85 23 [o0, o1, o2, o3] [.inl y0] σ Q := by
  exact e_ireturn q_85 rfl rfl h
theorem q_86 : m_code 86 = mc_86 := rfl
theorem g_86_0 {S : Nat × (Nat → Int32)} {d : Nat} {σ : Mem} {Q : MQ1} {x1 : Int32} {x2 : Int32} {x3 : Int32}  (h : Ec S d 109 [.inl x1] σ (fun rv σ' => Ev S (d + 1) 86 2 [some (.inr (some 0)), some (.inl x1), some (.inl x2), some (.inl x3), none] (rv ++ []) σ' Q)) : Ev S (d + 1) 86 0 [some (.inr (some 0)), some (.inl x1), some (.inl x2), some (.inl x3), none] [] σ Q := by
  refine e_load q_86 rfl rfl rfl ?_
  exact e_stat q_86 rfl (Nat.le_of_ble_eq_true rfl) rfl rfl (Nat.le_of_ble_eq_true rfl) h
theorem g_86_2 {S : Nat × (Nat → Int32)} {d : Nat} {σ : Mem} {Q : MQ1} {x1 : Int32} {x2 : Int32} {x3 : Int32} {o4 : Option MV} {y0 : Int32}  (h : ((y0 = 0 → (∃ j1 r2 r2n : Nat, x1 = nI j1 ∧ ([52, 54, 56, 58] : List Nat)[j1]? = some r2 ∧ isSt r2 r2n ∧ Ec S d 67 [.inr (some r2)] σ (fun rv σ' => Ev S (d + 1) 86 14 [some (.inr (some 0)), some (.inl x1), some (.inl x2), some (.inl x3), some (.inr (some r2))] (rv ++ []) σ' Q))) ∧ (¬ (y0 = 0) → Ec S d 105 [.inr (some 0), .inl (-100001)] σ (fun rv σ' => Ev S (d + 1) 86 6 [some (.inr (some 0)), some (.inl x1), some (.inl x2), some (.inl x3), o4] (rv ++ []) σ' Q)))) : Ev S (d + 1) 86 2 [some (.inr (some 0)), some (.inl x1), some (.inl x2), some (.inl x3), o4] [.inl y0] σ Q := by
  refine e_if (P := y0 = 0) q_86 rfl m_c0 (fun c => ?_) (fun c => ?_)
  · replace h := h.1 c
    refine e_load q_86 rfl rfl rfl ?_
    refine e_getR q_86 rfl rfl rfl ?_
    refine e_load q_86 rfl rfl rfl ?_
    obtain ⟨j1, r2, r2n, hjj1, hlj1, hr2, h⟩ := h
    refine e_aald q_86 rfl rfl (by decide) hjj1 hlj1 (by have := (List.getElem?_eq_some_iff.mp hlj1).1; simp at this; omega) ?_
    refine e_store (ls' := [some (.inr (some 0)), some (.inl x1), some (.inl x2), some (.inl x3), some (.inr (some r2))]) q_86 rfl (Nat.le_of_ble_eq_true rfl) rfl rfl ?_
    refine e_load q_86 rfl rfl rfl ?_
    exact e_virt q_86 rfl rfl (Nat.le_of_ble_eq_true rfl) rfl rfl (Nat.le_of_ble_eq_true rfl) hr2.1 h
  · replace h := h.2 c
    refine e_load q_86 rfl rfl rfl ?_
    refine e_push q_86 rfl ?_
    exact e_virt q_86 rfl rfl (Nat.le_of_ble_eq_true rfl) rfl rfl (Nat.le_of_ble_eq_true rfl) rfl h
theorem g_86_14 {S : Nat × (Nat → Int32)} {d : Nat} {σ : Mem} {Q : MQ1} {o1 : Option MV} {x2 : Int32} {x3 : Int32} {p4 p4n : Nat} {y0 : Int32} (hp4 : isSt p4 p4n) (h : ((y0 = 0 → Ec S d 70 [.inr (some p4), .inl x2, .inl 1] σ (fun rv σ' => Ev S (d + 1) 86 23 [some (.inr (some 0)), o1, some (.inl x2), some (.inl x3), some (.inr (some p4))] (rv ++ []) σ' Q)) ∧ (¬ (y0 = 0) → Ec S d 105 [.inr (some 0), .inl (-100002)] σ (fun rv σ' => Ev S (d + 1) 86 18 [some (.inr (some 0)), o1, some (.inl x2), some (.inl x3), some (.inr (some p4))] (rv ++ []) σ' Q)))) : Ev S (d + 1) 86 14 [some (.inr (some 0)), o1, some (.inl x2), some (.inl x3), some (.inr (some p4))] [.inl y0] σ Q := by
  refine e_if (P := y0 = 0) q_86 rfl m_c0 (fun c => ?_) (fun c => ?_)
  · replace h := h.1 c
    refine e_load q_86 rfl rfl rfl ?_
    refine e_load q_86 rfl rfl rfl ?_
    refine e_push q_86 rfl ?_
    exact e_virt q_86 rfl rfl (Nat.le_of_ble_eq_true rfl) rfl rfl (Nat.le_of_ble_eq_true rfl) hp4.1 h
  · replace h := h.2 c
    refine e_load q_86 rfl rfl rfl ?_
    refine e_push q_86 rfl ?_
    exact e_virt q_86 rfl rfl (Nat.le_of_ble_eq_true rfl) rfl rfl (Nat.le_of_ble_eq_true rfl) rfl h
theorem g_86_6 {S : Nat × (Nat → Int32)} {d : Nat} {σ : Mem} {Q : MQ1} {o0 : Option MV} {o1 : Option MV} {o2 : Option MV} {o3 : Option MV} {o4 : Option MV} {y0 : Int32}  (h : Q [.inl y0] σ) : Ev S (d + 1) 86 6 [o0, o1, o2, o3, o4] [.inl y0] σ Q := by
  exact e_ireturn q_86 rfl rfl h
theorem g_86_23 {S : Nat × (Nat → Int32)} {d : Nat} {σ : Mem} {Q : MQ1} {o1 : Option MV} {x2 : Int32} {x3 : Int32} {p4 p4n : Nat} {y0 : Int32} (hp4 : isSt p4 p4n) (h : (((¬ y0 = 0) → Ec S d 72 [.inr (some p4), .inl x2, .inl x3] σ (fun rv σ' => Ev S (d + 1) 86 32 [some (.inr (some 0)), o1, some (.inl x2), some (.inl x3), some (.inr (some p4))] (rv ++ []) σ' Q)) ∧ (¬ (¬ y0 = 0) → Ec S d 105 [.inr (some 0), .inl (-100001)] σ (fun rv σ' => Ev S (d + 1) 86 27 [some (.inr (some 0)), o1, some (.inl x2), some (.inl x3), some (.inr (some p4))] (rv ++ []) σ' Q)))) : Ev S (d + 1) 86 23 [some (.inr (some 0)), o1, some (.inl x2), some (.inl x3), some (.inr (some p4))] [.inl y0] σ Q := by
  refine e_if (P := ¬ y0 = 0) q_86 rfl m_c1 (fun c => ?_) (fun c => ?_)
  · replace h := h.1 c
    refine e_load q_86 rfl rfl rfl ?_
    refine e_load q_86 rfl rfl rfl ?_
    refine e_load q_86 rfl rfl rfl ?_
    exact e_virt q_86 rfl rfl (Nat.le_of_ble_eq_true rfl) rfl rfl (Nat.le_of_ble_eq_true rfl) hp4.1 h
  · replace h := h.2 c
    refine e_load q_86 rfl rfl rfl ?_
    refine e_push q_86 rfl ?_
    exact e_virt q_86 rfl rfl (Nat.le_of_ble_eq_true rfl) rfl rfl (Nat.le_of_ble_eq_true rfl) rfl h
theorem g_86_18 {S : Nat × (Nat → Int32)} {d : Nat} {σ : Mem} {Q : MQ1} {o0 : Option MV} {o1 : Option MV} {o2 : Option MV} {o3 : Option MV} {o4 : Option MV} {y0 : Int32}  (h : Q [.inl y0] σ) : Ev S (d + 1) 86 18 [o0, o1, o2, o3, o4] [.inl y0] σ Q := by
  exact e_ireturn q_86 rfl rfl h
theorem g_86_32 {S : Nat × (Nat → Int32)} {d : Nat} {σ : Mem} {Q : MQ1} {o0 : Option MV} {o1 : Option MV} {o2 : Option MV} {o3 : Option MV} {o4 : Option MV}  (h : Q [.inl 0] σ) : Ev S (d + 1) 86 32 [o0, o1, o2, o3, o4] [] σ Q := by
  refine e_push q_86 rfl ?_
  exact e_ireturn q_86 rfl rfl h
theorem g_86_27 {S : Nat × (Nat → Int32)} {d : Nat} {σ : Mem} {Q : MQ1} {o0 : Option MV} {o1 : Option MV} {o2 : Option MV} {o3 : Option MV} {o4 : Option MV} {y0 : Int32}  (h : Q [.inl y0] σ) : Ev S (d + 1) 86 27 [o0, o1, o2, o3, o4] [.inl y0] σ Q := by
  exact e_ireturn q_86 rfl rfl h
theorem q_87 : m_code 87 = mc_87 := rfl
theorem g_87_0 {S : Nat × (Nat → Int32)} {d : Nat} {σ : Mem} {Q : MQ1} {x1 : Int32} {x2 : Int32} {x3 : Int32} {x4 : Int32} {x5 : Int32}  (h : Ec S d 109 [.inl x1] σ (fun rv σ' => Ev S (d + 1) 87 2 [some (.inr (some 0)), some (.inl x1), some (.inl x2), some (.inl x3), some (.inl x4), some (.inl x5), none, none] (rv ++ []) σ' Q)) : Ev S (d + 1) 87 0 [some (.inr (some 0)), some (.inl x1), some (.inl x2), some (.inl x3), some (.inl x4), some (.inl x5), none, none] [] σ Q := by
  refine e_load q_87 rfl rfl rfl ?_
  exact e_stat q_87 rfl (Nat.le_of_ble_eq_true rfl) rfl rfl (Nat.le_of_ble_eq_true rfl) h
theorem g_87_2 {S : Nat × (Nat → Int32)} {d : Nat} {σ : Mem} {Q : MQ1} {x1 : Int32} {x2 : Int32} {x3 : Int32} {x4 : Int32} {x5 : Int32} {o6 : Option MV} {o7 : Option MV} {y0 : Int32}  (h : (((¬ y0 = 0) → Ec S d 105 [.inr (some 0), .inl (-100001)] σ (fun rv σ' => Ev S (d + 1) 87 9 [some (.inr (some 0)), some (.inl x1), some (.inl x2), some (.inl x3), some (.inl x4), some (.inl x5), o6, o7] (rv ++ []) σ' Q)) ∧ (¬ (¬ y0 = 0) → Ec S d 109 [.inl x3] σ (fun rv σ' => Ev S (d + 1) 87 5 [some (.inr (some 0)), some (.inl x1), some (.inl x2), some (.inl x3), some (.inl x4), some (.inl x5), o6, o7] (rv ++ []) σ' Q)))) : Ev S (d + 1) 87 2 [some (.inr (some 0)), some (.inl x1), some (.inl x2), some (.inl x3), some (.inl x4), some (.inl x5), o6, o7] [.inl y0] σ Q := by
  refine e_if (P := ¬ y0 = 0) q_87 rfl m_c1 (fun c => ?_) (fun c => ?_)
  · replace h := h.1 c
    refine e_load q_87 rfl rfl rfl ?_
    refine e_push q_87 rfl ?_
    exact e_virt q_87 rfl rfl (Nat.le_of_ble_eq_true rfl) rfl rfl (Nat.le_of_ble_eq_true rfl) rfl h
  · replace h := h.2 c
    refine e_load q_87 rfl rfl rfl ?_
    exact e_stat q_87 rfl (Nat.le_of_ble_eq_true rfl) rfl rfl (Nat.le_of_ble_eq_true rfl) h
theorem g_87_9 {S : Nat × (Nat → Int32)} {d : Nat} {σ : Mem} {Q : MQ1} {o0 : Option MV} {o1 : Option MV} {o2 : Option MV} {o3 : Option MV} {o4 : Option MV} {o5 : Option MV} {o6 : Option MV} {o7 : Option MV} {y0 : Int32}  (h : Q [.inl y0] σ) : Ev S (d + 1) 87 9 [o0, o1, o2, o3, o4, o5, o6, o7] [.inl y0] σ Q := by
  exact e_ireturn q_87 rfl rfl h
theorem g_87_5 {S : Nat × (Nat → Int32)} {d : Nat} {σ : Mem} {Q : MQ1} {x1 : Int32} {x2 : Int32} {x3 : Int32} {x4 : Int32} {x5 : Int32} {o6 : Option MV} {o7 : Option MV} {y0 : Int32}  (h : ((y0 = 0 → (∃ j1 r2 r2n : Nat, x1 = nI j1 ∧ ([52, 54, 56, 58] : List Nat)[j1]? = some r2 ∧ isSt r2 r2n ∧ (∃ j3 r4 r4n : Nat, x3 = nI j3 ∧ ([52, 54, 56, 58] : List Nat)[j3]? = some r4 ∧ isSt r4 r4n ∧ Ec S d 67 [.inr (some r2)] σ (fun rv σ' => Ev S (d + 1) 87 22 [some (.inr (some 0)), some (.inl x1), some (.inl x2), some (.inl x3), some (.inl x4), some (.inl x5), some (.inr (some r2)), some (.inr (some r4))] (rv ++ []) σ' Q)))) ∧ (¬ (y0 = 0) → Ec S d 105 [.inr (some 0), .inl (-100001)] σ (fun rv σ' => Ev S (d + 1) 87 9 [some (.inr (some 0)), some (.inl x1), some (.inl x2), some (.inl x3), some (.inl x4), some (.inl x5), o6, o7] (rv ++ []) σ' Q)))) : Ev S (d + 1) 87 5 [some (.inr (some 0)), some (.inl x1), some (.inl x2), some (.inl x3), some (.inl x4), some (.inl x5), o6, o7] [.inl y0] σ Q := by
  refine e_if (P := y0 = 0) q_87 rfl m_c0 (fun c => ?_) (fun c => ?_)
  · replace h := h.1 c
    refine e_load q_87 rfl rfl rfl ?_
    refine e_getR q_87 rfl rfl rfl ?_
    refine e_load q_87 rfl rfl rfl ?_
    obtain ⟨j1, r2, r2n, hjj1, hlj1, hr2, h⟩ := h
    refine e_aald q_87 rfl rfl (by decide) hjj1 hlj1 (by have := (List.getElem?_eq_some_iff.mp hlj1).1; simp at this; omega) ?_
    refine e_store (ls' := [some (.inr (some 0)), some (.inl x1), some (.inl x2), some (.inl x3), some (.inl x4), some (.inl x5), some (.inr (some r2)), o7]) q_87 rfl (Nat.le_of_ble_eq_true rfl) rfl rfl ?_
    refine e_load q_87 rfl rfl rfl ?_
    refine e_getR q_87 rfl rfl rfl ?_
    refine e_load q_87 rfl rfl rfl ?_
    obtain ⟨j3, r4, r4n, hjj3, hlj3, hr4, h⟩ := h
    refine e_aald q_87 rfl rfl (by decide) hjj3 hlj3 (by have := (List.getElem?_eq_some_iff.mp hlj3).1; simp at this; omega) ?_
    refine e_store (ls' := [some (.inr (some 0)), some (.inl x1), some (.inl x2), some (.inl x3), some (.inl x4), some (.inl x5), some (.inr (some r2)), some (.inr (some r4))]) q_87 rfl (Nat.le_of_ble_eq_true rfl) rfl rfl ?_
    refine e_load q_87 rfl rfl rfl ?_
    exact e_virt q_87 rfl rfl (Nat.le_of_ble_eq_true rfl) rfl rfl (Nat.le_of_ble_eq_true rfl) hr2.1 h
  · replace h := h.2 c
    refine e_load q_87 rfl rfl rfl ?_
    refine e_push q_87 rfl ?_
    exact e_virt q_87 rfl rfl (Nat.le_of_ble_eq_true rfl) rfl rfl (Nat.le_of_ble_eq_true rfl) rfl h
theorem g_87_22 {S : Nat × (Nat → Int32)} {d : Nat} {σ : Mem} {Q : MQ1} {o1 : Option MV} {x2 : Int32} {o3 : Option MV} {x4 : Int32} {x5 : Int32} {p6 p6n : Nat} {p7 p7n : Nat} {y0 : Int32} (hp6 : isSt p6 p6n) (hp7 : isSt p7 p7n) (h : (((¬ y0 = 0) → Ec S d 105 [.inr (some 0), .inl (-100002)] σ (fun rv σ' => Ev S (d + 1) 87 29 [some (.inr (some 0)), o1, some (.inl x2), o3, some (.inl x4), some (.inl x5), some (.inr (some p6)), some (.inr (some p7))] (rv ++ []) σ' Q)) ∧ (¬ (¬ y0 = 0) → Ec S d 67 [.inr (some p7)] σ (fun rv σ' => Ev S (d + 1) 87 25 [some (.inr (some 0)), o1, some (.inl x2), o3, some (.inl x4), some (.inl x5), some (.inr (some p6)), some (.inr (some p7))] (rv ++ []) σ' Q)))) : Ev S (d + 1) 87 22 [some (.inr (some 0)), o1, some (.inl x2), o3, some (.inl x4), some (.inl x5), some (.inr (some p6)), some (.inr (some p7))] [.inl y0] σ Q := by
  refine e_if (P := ¬ y0 = 0) q_87 rfl m_c1 (fun c => ?_) (fun c => ?_)
  · replace h := h.1 c
    refine e_load q_87 rfl rfl rfl ?_
    refine e_push q_87 rfl ?_
    exact e_virt q_87 rfl rfl (Nat.le_of_ble_eq_true rfl) rfl rfl (Nat.le_of_ble_eq_true rfl) rfl h
  · replace h := h.2 c
    refine e_load q_87 rfl rfl rfl ?_
    exact e_virt q_87 rfl rfl (Nat.le_of_ble_eq_true rfl) rfl rfl (Nat.le_of_ble_eq_true rfl) hp7.1 h
theorem g_87_29 {S : Nat × (Nat → Int32)} {d : Nat} {σ : Mem} {Q : MQ1} {o0 : Option MV} {o1 : Option MV} {o2 : Option MV} {o3 : Option MV} {o4 : Option MV} {o5 : Option MV} {o6 : Option MV} {o7 : Option MV} {y0 : Int32}  (h : Q [.inl y0] σ) : Ev S (d + 1) 87 29 [o0, o1, o2, o3, o4, o5, o6, o7] [.inl y0] σ Q := by
  exact e_ireturn q_87 rfl rfl h
theorem g_87_25 {S : Nat × (Nat → Int32)} {d : Nat} {σ : Mem} {Q : MQ1} {o1 : Option MV} {x2 : Int32} {o3 : Option MV} {x4 : Int32} {x5 : Int32} {p6 p6n : Nat} {p7 p7n : Nat} {y0 : Int32} (hp6 : isSt p6 p6n) (hp7 : isSt p7 p7n) (h : ((y0 = 0 → Ec S d 68 [.inr (some p6), .inr (some p7)] σ (fun rv σ' => Ev S (d + 1) 87 33 [some (.inr (some 0)), o1, some (.inl x2), o3, some (.inl x4), some (.inl x5), some (.inr (some p6)), some (.inr (some p7))] (rv ++ []) σ' Q)) ∧ (¬ (y0 = 0) → Ec S d 105 [.inr (some 0), .inl (-100002)] σ (fun rv σ' => Ev S (d + 1) 87 29 [some (.inr (some 0)), o1, some (.inl x2), o3, some (.inl x4), some (.inl x5), some (.inr (some p6)), some (.inr (some p7))] (rv ++ []) σ' Q)))) : Ev S (d + 1) 87 25 [some (.inr (some 0)), o1, some (.inl x2), o3, some (.inl x4), some (.inl x5), some (.inr (some p6)), some (.inr (some p7))] [.inl y0] σ Q := by
  refine e_if (P := y0 = 0) q_87 rfl m_c0 (fun c => ?_) (fun c => ?_)
  · replace h := h.1 c
    refine e_load q_87 rfl rfl rfl ?_
    refine e_load q_87 rfl rfl rfl ?_
    exact e_virt q_87 rfl rfl (Nat.le_of_ble_eq_true rfl) rfl rfl (Nat.le_of_ble_eq_true rfl) hp6.1 h
  · replace h := h.2 c
    refine e_load q_87 rfl rfl rfl ?_
    refine e_push q_87 rfl ?_
    exact e_virt q_87 rfl rfl (Nat.le_of_ble_eq_true rfl) rfl rfl (Nat.le_of_ble_eq_true rfl) rfl h
theorem g_87_33 {S : Nat × (Nat → Int32)} {d : Nat} {σ : Mem} {Q : MQ1} {o1 : Option MV} {x2 : Int32} {o3 : Option MV} {x4 : Int32} {x5 : Int32} {p6 p6n : Nat} {p7 p7n : Nat} {y0 : Int32} (hp6 : isSt p6 p6n) (hp7 : isSt p7 p7n) (h : (((¬ y0 = 0) → Ec S d 70 [.inr (some p6), .inl x2, .inl x5] σ (fun rv σ' => Ev S (d + 1) 87 42 [some (.inr (some 0)), o1, some (.inl x2), o3, some (.inl x4), some (.inl x5), some (.inr (some p6)), some (.inr (some p7))] (rv ++ []) σ' Q)) ∧ (¬ (¬ y0 = 0) → Ec S d 105 [.inr (some 0), .inl (-100004)] σ (fun rv σ' => Ev S (d + 1) 87 37 [some (.inr (some 0)), o1, some (.inl x2), o3, some (.inl x4), some (.inl x5), some (.inr (some p6)), some (.inr (some p7))] (rv ++ []) σ' Q)))) : Ev S (d + 1) 87 33 [some (.inr (some 0)), o1, some (.inl x2), o3, some (.inl x4), some (.inl x5), some (.inr (some p6)), some (.inr (some p7))] [.inl y0] σ Q := by
  refine e_if (P := ¬ y0 = 0) q_87 rfl m_c1 (fun c => ?_) (fun c => ?_)
  · replace h := h.1 c
    refine e_load q_87 rfl rfl rfl ?_
    refine e_load q_87 rfl rfl rfl ?_
    refine e_load q_87 rfl rfl rfl ?_
    exact e_virt q_87 rfl rfl (Nat.le_of_ble_eq_true rfl) rfl rfl (Nat.le_of_ble_eq_true rfl) hp6.1 h
  · replace h := h.2 c
    refine e_load q_87 rfl rfl rfl ?_
    refine e_push q_87 rfl ?_
    exact e_virt q_87 rfl rfl (Nat.le_of_ble_eq_true rfl) rfl rfl (Nat.le_of_ble_eq_true rfl) rfl h
theorem g_87_42 {S : Nat × (Nat → Int32)} {d : Nat} {σ : Mem} {Q : MQ1} {o1 : Option MV} {x2 : Int32} {o3 : Option MV} {x4 : Int32} {x5 : Int32} {p6 p6n : Nat} {p7 p7n : Nat} {y0 : Int32} (hp6 : isSt p6 p6n) (hp7 : isSt p7 p7n) (h : ((y0 = 0 → Ec S d 105 [.inr (some 0), .inl (-100001)] σ (fun rv σ' => Ev S (d + 1) 87 51 [some (.inr (some 0)), o1, some (.inl x2), o3, some (.inl x4), some (.inl x5), some (.inr (some p6)), some (.inr (some p7))] (rv ++ []) σ' Q)) ∧ (¬ (y0 = 0) → Ec S d 70 [.inr (some p7), .inl x4, .inl x5] σ (fun rv σ' => Ev S (d + 1) 87 47 [some (.inr (some 0)), o1, some (.inl x2), o3, some (.inl x4), some (.inl x5), some (.inr (some p6)), some (.inr (some p7))] (rv ++ []) σ' Q)))) : Ev S (d + 1) 87 42 [some (.inr (some 0)), o1, some (.inl x2), o3, some (.inl x4), some (.inl x5), some (.inr (some p6)), some (.inr (some p7))] [.inl y0] σ Q := by
  refine e_if (P := y0 = 0) q_87 rfl m_c0 (fun c => ?_) (fun c => ?_)
  · replace h := h.1 c
    refine e_load q_87 rfl rfl rfl ?_
    refine e_push q_87 rfl ?_
    exact e_virt q_87 rfl rfl (Nat.le_of_ble_eq_true rfl) rfl rfl (Nat.le_of_ble_eq_true rfl) rfl h
  · replace h := h.2 c
    refine e_load q_87 rfl rfl rfl ?_
    refine e_load q_87 rfl rfl rfl ?_
    refine e_load q_87 rfl rfl rfl ?_
    exact e_virt q_87 rfl rfl (Nat.le_of_ble_eq_true rfl) rfl rfl (Nat.le_of_ble_eq_true rfl) hp7.1 h
theorem g_87_37 {S : Nat × (Nat → Int32)} {d : Nat} {σ : Mem} {Q : MQ1} {o0 : Option MV} {o1 : Option MV} {o2 : Option MV} {o3 : Option MV} {o4 : Option MV} {o5 : Option MV} {o6 : Option MV} {o7 : Option MV} {y0 : Int32}  (h : Q [.inl y0] σ) : Ev S (d + 1) 87 37 [o0, o1, o2, o3, o4, o5, o6, o7] [.inl y0] σ Q := by
  exact e_ireturn q_87 rfl rfl h
theorem g_87_51 {S : Nat × (Nat → Int32)} {d : Nat} {σ : Mem} {Q : MQ1} {o0 : Option MV} {o1 : Option MV} {o2 : Option MV} {o3 : Option MV} {o4 : Option MV} {o5 : Option MV} {o6 : Option MV} {o7 : Option MV} {y0 : Int32}  (h : Q [.inl y0] σ) : Ev S (d + 1) 87 51 [o0, o1, o2, o3, o4, o5, o6, o7] [.inl y0] σ Q := by
  exact e_ireturn q_87 rfl rfl h
theorem g_87_47 {S : Nat × (Nat → Int32)} {d : Nat} {σ : Mem} {Q : MQ1} {o1 : Option MV} {x2 : Int32} {o3 : Option MV} {x4 : Int32} {x5 : Int32} {p6 p6n : Nat} {p7 p7n : Nat} {y0 : Int32} (hp6 : isSt p6 p6n) (hp7 : isSt p7 p7n) (h : (((¬ y0 = 0) → Ec S d 73 [.inr (some p7), .inr (some p6), .inl x2, .inl x4, .inl x5] σ (fun rv σ' => Ev S (d + 1) 87 58 [some (.inr (some 0)), o1, some (.inl x2), o3, some (.inl x4), some (.inl x5), some (.inr (some p6)), some (.inr (some p7))] (rv ++ []) σ' Q)) ∧ (¬ (¬ y0 = 0) → Ec S d 105 [.inr (some 0), .inl (-100001)] σ (fun rv σ' => Ev S (d + 1) 87 51 [some (.inr (some 0)), o1, some (.inl x2), o3, some (.inl x4), some (.inl x5), some (.inr (some p6)), some (.inr (some p7))] (rv ++ []) σ' Q)))) : Ev S (d + 1) 87 47 [some (.inr (some 0)), o1, some (.inl x2), o3, some (.inl x4), some (.inl x5), some (.inr (some p6)), some (.inr (some p7))] [.inl y0] σ Q := by
  refine e_if (P := ¬ y0 = 0) q_87 rfl m_c1 (fun c => ?_) (fun c => ?_)
  · replace h := h.1 c
    refine e_load q_87 rfl rfl rfl ?_
    refine e_load q_87 rfl rfl rfl ?_
    refine e_load q_87 rfl rfl rfl ?_
    refine e_load q_87 rfl rfl rfl ?_
    refine e_load q_87 rfl rfl rfl ?_
    exact e_virt q_87 rfl rfl (Nat.le_of_ble_eq_true rfl) rfl rfl (Nat.le_of_ble_eq_true rfl) hp7.1 h
  · replace h := h.2 c
    refine e_load q_87 rfl rfl rfl ?_
    refine e_push q_87 rfl ?_
    exact e_virt q_87 rfl rfl (Nat.le_of_ble_eq_true rfl) rfl rfl (Nat.le_of_ble_eq_true rfl) rfl h
theorem g_87_58 {S : Nat × (Nat → Int32)} {d : Nat} {σ : Mem} {Q : MQ1} {o0 : Option MV} {o1 : Option MV} {o2 : Option MV} {o3 : Option MV} {o4 : Option MV} {x5 : Int32} {o6 : Option MV} {o7 : Option MV}  (h : Q [.inl x5] σ) : Ev S (d + 1) 87 58 [o0, o1, o2, o3, o4, some (.inl x5), o6, o7] [] σ Q := by
  refine e_load q_87 rfl rfl rfl ?_
  exact e_ireturn q_87 rfl rfl h
theorem q_88 : m_code 88 = mc_88 := rfl
theorem g_88_0 {S : Nat × (Nat → Int32)} {d : Nat} {σ : Mem} {Q : MQ1} {x1 : Int32}  (h : Ec S d 109 [.inl x1] σ (fun rv σ' => Ev S (d + 1) 88 2 [some (.inr (some 0)), some (.inl x1), none, none, none, none] (rv ++ []) σ' Q)) : Ev S (d + 1) 88 0 [some (.inr (some 0)), some (.inl x1), none, none, none, none] [] σ Q := by
  refine e_load q_88 rfl rfl rfl ?_
  exact e_stat q_88 rfl (Nat.le_of_ble_eq_true rfl) rfl rfl (Nat.le_of_ble_eq_true rfl) h
theorem g_88_2 {S : Nat × (Nat → Int32)} {d : Nat} {σ : Mem} {Q : MQ1} {x1 : Int32} {o2 : Option MV} {o3 : Option MV} {o4 : Option MV} {o5 : Option MV} {y0 : Int32}  (h : ((y0 = 0 → (∃ j1 r2 r2n : Nat, x1 = nI j1 ∧ ([52, 54, 56, 58] : List Nat)[j1]? = some r2 ∧ isSt r2 r2n ∧ Ec S d 67 [.inr (some r2)] σ (fun rv σ' => Ev S (d + 1) 88 14 [some (.inr (some 0)), some (.inl x1), some (.inr (some r2)), o3, o4, o5] (rv ++ []) σ' Q))) ∧ (¬ (y0 = 0) → Ec S d 105 [.inr (some 0), .inl (-100001)] σ (fun rv σ' => Ev S (d + 1) 88 6 [some (.inr (some 0)), some (.inl x1), o2, o3, o4, o5] (rv ++ []) σ' Q)))) : Ev S (d + 1) 88 2 [some (.inr (some 0)), some (.inl x1), o2, o3, o4, o5] [.inl y0] σ Q := by
  refine e_if (P := y0 = 0) q_88 rfl m_c0 (fun c => ?_) (fun c => ?_)
  · replace h := h.1 c
    refine e_load q_88 rfl rfl rfl ?_
    refine e_getR q_88 rfl rfl rfl ?_
    refine e_load q_88 rfl rfl rfl ?_
    obtain ⟨j1, r2, r2n, hjj1, hlj1, hr2, h⟩ := h
    refine e_aald q_88 rfl rfl (by decide) hjj1 hlj1 (by have := (List.getElem?_eq_some_iff.mp hlj1).1; simp at this; omega) ?_
    refine e_store (ls' := [some (.inr (some 0)), some (.inl x1), some (.inr (some r2)), o3, o4, o5]) q_88 rfl (Nat.le_of_ble_eq_true rfl) rfl rfl ?_
    refine e_load q_88 rfl rfl rfl ?_
    exact e_virt q_88 rfl rfl (Nat.le_of_ble_eq_true rfl) rfl rfl (Nat.le_of_ble_eq_true rfl) hr2.1 h
  · replace h := h.2 c
    refine e_load q_88 rfl rfl rfl ?_
    refine e_push q_88 rfl ?_
    exact e_virt q_88 rfl rfl (Nat.le_of_ble_eq_true rfl) rfl rfl (Nat.le_of_ble_eq_true rfl) rfl h
theorem g_88_14 {S : Nat × (Nat → Int32)} {d : Nat} {σ : Mem} {Q : MQ1} {o1 : Option MV} {p2 p2n : Nat} {o3 : Option MV} {o4 : Option MV} {o5 : Option MV} {y0 : Int32} (hp2 : isSt p2 p2n) (h : ((y0 = 0 → Ec S d 69 [.inr (some p2)] σ (fun rv σ' => Ev S (d + 1) 88 21 [some (.inr (some 0)), o1, some (.inr (some p2)), o3, o4, o5] (rv ++ []) σ' Q)) ∧ (¬ (y0 = 0) → Ec S d 105 [.inr (some 0), .inl (-100002)] σ (fun rv σ' => Ev S (d + 1) 88 18 [some (.inr (some 0)), o1, some (.inr (some p2)), o3, o4, o5] (rv ++ []) σ' Q)))) : Ev S (d + 1) 88 14 [some (.inr (some 0)), o1, some (.inr (some p2)), o3, o4, o5] [.inl y0] σ Q := by
  refine e_if (P := y0 = 0) q_88 rfl m_c0 (fun c => ?_) (fun c => ?_)
  · replace h := h.1 c
    refine e_load q_88 rfl rfl rfl ?_
    exact e_virt q_88 rfl rfl (Nat.le_of_ble_eq_true rfl) rfl rfl (Nat.le_of_ble_eq_true rfl) hp2.1 h
  · replace h := h.2 c
    refine e_load q_88 rfl rfl rfl ?_
    refine e_push q_88 rfl ?_
    exact e_virt q_88 rfl rfl (Nat.le_of_ble_eq_true rfl) rfl rfl (Nat.le_of_ble_eq_true rfl) rfl h
theorem g_88_6 {S : Nat × (Nat → Int32)} {d : Nat} {σ : Mem} {Q : MQ1} {o0 : Option MV} {o1 : Option MV} {o2 : Option MV} {o3 : Option MV} {o4 : Option MV} {o5 : Option MV} {y0 : Int32}  (h : Q [.inl y0] σ) : Ev S (d + 1) 88 6 [o0, o1, o2, o3, o4, o5] [.inl y0] σ Q := by
  exact e_ireturn q_88 rfl rfl h
theorem g_88_21 {S : Nat × (Nat → Int32)} {d : Nat} {σ : Mem} {Q : MQ1} {o1 : Option MV} {p2 p2n : Nat} {o3 : Option MV} {o4 : Option MV} {o5 : Option MV} {y0 : Int32} (hp2 : isSt p2 p2n) (h : Ev S (d + 1) 88 26 [some (.inr (some 0)), o1, some (.inr (some p2)), some (.inl (if 6 < y0 then 6 else y0)), some (.inl 0), o5] [] σ Q) : Ev S (d + 1) 88 21 [some (.inr (some 0)), o1, some (.inr (some p2)), o3, o4, o5] [.inl y0] σ Q := by
  refine e_push q_88 rfl ?_
  refine e_min (r := (if 6 < y0 then 6 else y0)) q_88 rfl (Nat.le_of_ble_eq_true rfl) rfl ?_
  refine e_store (ls' := [some (.inr (some 0)), o1, some (.inr (some p2)), some (.inl (if 6 < y0 then 6 else y0)), o4, o5]) q_88 rfl (Nat.le_of_ble_eq_true rfl) rfl rfl ?_
  refine e_push q_88 rfl ?_
  refine e_store (ls' := [some (.inr (some 0)), o1, some (.inr (some p2)), some (.inl (if 6 < y0 then 6 else y0)), some (.inl 0), o5]) q_88 rfl (Nat.le_of_ble_eq_true rfl) rfl rfl ?_
  exact h
theorem g_88_18 {S : Nat × (Nat → Int32)} {d : Nat} {σ : Mem} {Q : MQ1} {o0 : Option MV} {o1 : Option MV} {o2 : Option MV} {o3 : Option MV} {o4 : Option MV} {o5 : Option MV} {y0 : Int32}  (h : Q [.inl y0] σ) : Ev S (d + 1) 88 18 [o0, o1, o2, o3, o4, o5] [.inl y0] σ Q := by
  exact e_ireturn q_88 rfl rfl h
theorem g_88_26 {S : Nat × (Nat → Int32)} {d : Nat} {σ : Mem} {Q : MQ1} {o1 : Option MV} {p2 p2n : Nat} {x3 : Int32} {x4 : Int32} {o5 : Option MV} (hp2 : isSt p2 p2n) (h : ((x3 ≤ x4 → Ec S d 26 [.inr (some 24), .inr (some 1)] σ (fun rv σ' => Ev S (d + 1) 88 45 [some (.inr (some 0)), o1, some (.inr (some p2)), some (.inl x3), some (.inl x4), o5] (rv ++ []) σ' Q)) ∧ (¬ (x3 ≤ x4) → Ec S d 71 [.inr (some p2), .inl x4] σ (fun rv σ' => Ev S (d + 1) 88 32 [some (.inr (some 0)), o1, some (.inr (some p2)), some (.inl x3), some (.inl x4), o5] (rv ++ []) σ' Q)))) : Ev S (d + 1) 88 26 [some (.inr (some 0)), o1, some (.inr (some p2)), some (.inl x3), some (.inl x4), o5] [] σ Q := by
  refine e_load q_88 rfl rfl rfl ?_
  refine e_load q_88 rfl rfl rfl ?_
  refine e_icmp (P := x3 ≤ x4) q_88 rfl m_c3 (fun c => ?_) (fun c => ?_)
  · replace h := h.1 c
    refine e_load q_88 rfl rfl rfl ?_
    refine e_getR q_88 rfl rfl rfl ?_
    refine e_load q_88 rfl rfl rfl ?_
    refine e_getR q_88 rfl rfl rfl ?_
    exact e_virt q_88 rfl rfl (Nat.le_of_ble_eq_true rfl) rfl rfl (Nat.le_of_ble_eq_true rfl) rfl h
  · replace h := h.2 c
    refine e_load q_88 rfl rfl rfl ?_
    refine e_load q_88 rfl rfl rfl ?_
    exact e_virt q_88 rfl rfl (Nat.le_of_ble_eq_true rfl) rfl rfl (Nat.le_of_ble_eq_true rfl) hp2.1 h
theorem g_88_45 {S : Nat × (Nat → Int32)} {d : Nat} {σ : Mem} {Q : MQ1} {o1 : Option MV} {p2 p2n : Nat} {x3 : Int32} {o4 : Option MV} {o5 : Option MV} (hp2 : isSt p2 p2n) (h : Ev S (d + 1) 88 47 [some (.inr (some 0)), o1, some (.inr (some p2)), some (.inl x3), some (.inl 0), o5] [] σ Q) : Ev S (d + 1) 88 45 [some (.inr (some 0)), o1, some (.inr (some p2)), some (.inl x3), o4, o5] [] σ Q := by
  refine e_push q_88 rfl ?_
  refine e_store (ls' := [some (.inr (some 0)), o1, some (.inr (some p2)), some (.inl x3), some (.inl 0), o5]) q_88 rfl (Nat.le_of_ble_eq_true rfl) rfl rfl ?_
  exact h
theorem g_88_32 {S : Nat × (Nat → Int32)} {d : Nat} {σ : Mem} {Q : MQ1} {o1 : Option MV} {p2 p2n : Nat} {x3 : Int32} {x4 : Int32} {o5 : Option MV} {y0 : Int32} (hp2 : isSt p2 p2n) (h : ((y0 ≤ 40 → Ev S (d + 1) 88 26 [some (.inr (some 0)), o1, some (.inr (some p2)), some (.inl x3), some (.inl (x4 + 1)), o5] [] σ Q) ∧ (¬ (y0 ≤ 40) → Ec S d 105 [.inr (some 0), .inl (-100001)] σ (fun rv σ' => Ev S (d + 1) 88 37 [some (.inr (some 0)), o1, some (.inr (some p2)), some (.inl x3), some (.inl x4), o5] (rv ++ []) σ' Q)))) : Ev S (d + 1) 88 32 [some (.inr (some 0)), o1, some (.inr (some p2)), some (.inl x3), some (.inl x4), o5] [.inl y0] σ Q := by
  refine e_push q_88 rfl ?_
  refine e_icmp (P := y0 ≤ 40) q_88 rfl m_c5 (fun c => ?_) (fun c => ?_)
  · replace h := h.1 c
    refine e_iinc (ls' := [some (.inr (some 0)), o1, some (.inr (some p2)), some (.inl x3), some (.inl (x4 + 1)), o5]) q_88 rfl rfl rfl ?_
    refine e_goto q_88 rfl ?_
    exact h
  · replace h := h.2 c
    refine e_load q_88 rfl rfl rfl ?_
    refine e_push q_88 rfl ?_
    exact e_virt q_88 rfl rfl (Nat.le_of_ble_eq_true rfl) rfl rfl (Nat.le_of_ble_eq_true rfl) rfl h
theorem g_88_47 {S : Nat × (Nat → Int32)} {d : Nat} {σ : Mem} {Q : MQ1} {o1 : Option MV} {p2 p2n : Nat} {x3 : Int32} {x4 : Int32} {o5 : Option MV} (hp2 : isSt p2 p2n) (h : ((x3 ≤ x4 → Q [.inl x3] σ) ∧ (¬ (x3 ≤ x4) → Ec S d 71 [.inr (some p2), .inl x4] σ (fun rv σ' => Ev S (d + 1) 88 53 [some (.inr (some 0)), o1, some (.inr (some p2)), some (.inl x3), some (.inl x4), o5] (rv ++ []) σ' Q)))) : Ev S (d + 1) 88 47 [some (.inr (some 0)), o1, some (.inr (some p2)), some (.inl x3), some (.inl x4), o5] [] σ Q := by
  refine e_load q_88 rfl rfl rfl ?_
  refine e_load q_88 rfl rfl rfl ?_
  refine e_icmp (P := x3 ≤ x4) q_88 rfl m_c3 (fun c => ?_) (fun c => ?_)
  · replace h := h.1 c
    refine e_load q_88 rfl rfl rfl ?_
    exact e_ireturn q_88 rfl rfl h
  · replace h := h.2 c
    refine e_load q_88 rfl rfl rfl ?_
    refine e_load q_88 rfl rfl rfl ?_
    exact e_virt q_88 rfl rfl (Nat.le_of_ble_eq_true rfl) rfl rfl (Nat.le_of_ble_eq_true rfl) hp2.1 h
theorem g_88_37 {S : Nat × (Nat → Int32)} {d : Nat} {σ : Mem} {Q : MQ1} {o0 : Option MV} {o1 : Option MV} {o2 : Option MV} {o3 : Option MV} {o4 : Option MV} {o5 : Option MV} {y0 : Int32}  (h : Q [.inl y0] σ) : Ev S (d + 1) 88 37 [o0, o1, o2, o3, o4, o5] [.inl y0] σ Q := by
  exact e_ireturn q_88 rfl rfl h
theorem g_88_53 {S : Nat × (Nat → Int32)} {d : Nat} {σ : Mem} {Q : MQ1} {o1 : Option MV} {p2 p2n : Nat} {x3 : Int32} {x4 : Int32} {o5 : Option MV} {y0 : Int32} (hp2 : isSt p2 p2n) (h : ((0 ≤ y0 → Ec S d 19 [.inr (some 1), .inl x4, .inl 0] σ (fun rv σ' => Ev S (d + 1) 88 63 [some (.inr (some 0)), o1, some (.inr (some p2)), some (.inl x3), some (.inl x4), some (.inl y0)] (rv ++ []) σ' Q)) ∧ (¬ (0 ≤ y0) → Ec S d 19 [.inr (some 1), .inl x4, .inl 1] σ (fun rv σ' => Ev S (d + 1) 88 63 [some (.inr (some 0)), o1, some (.inr (some p2)), some (.inl x3), some (.inl x4), some (.inl y0)] (rv ++ []) σ' Q)))) : Ev S (d + 1) 88 53 [some (.inr (some 0)), o1, some (.inr (some p2)), some (.inl x3), some (.inl x4), o5] [.inl y0] σ Q := by
  refine e_store (ls' := [some (.inr (some 0)), o1, some (.inr (some p2)), some (.inl x3), some (.inl x4), some (.inl y0)]) q_88 rfl (Nat.le_of_ble_eq_true rfl) rfl rfl ?_
  refine e_load q_88 rfl rfl rfl ?_
  refine e_getR q_88 rfl rfl rfl ?_
  refine e_load q_88 rfl rfl rfl ?_
  refine e_load q_88 rfl rfl rfl ?_
  refine e_if (P := 0 ≤ y0) q_88 rfl m_c3 (fun c => ?_) (fun c => ?_)
  · replace h := h.1 c
    refine e_push q_88 rfl ?_
    exact e_virt q_88 rfl rfl (Nat.le_of_ble_eq_true rfl) rfl rfl (Nat.le_of_ble_eq_true rfl) rfl h
  · replace h := h.2 c
    refine e_push q_88 rfl ?_
    refine e_goto q_88 rfl ?_
    exact e_virt q_88 rfl rfl (Nat.le_of_ble_eq_true rfl) rfl rfl (Nat.le_of_ble_eq_true rfl) rfl h
theorem g_88_63 {S : Nat × (Nat → Int32)} {d : Nat} {σ : Mem} {Q : MQ1} {o1 : Option MV} {p2 p2n : Nat} {x3 : Int32} {x4 : Int32} {x5 : Int32} (hp2 : isSt p2 p2n) (h : ((x5 < 0 → Ev S (d + 1) 88 47 [some (.inr (some 0)), o1, some (.inr (some p2)), some (.inl x3), some (.inl (x4 + 1)), some (.inl x5)] [] σ Q) ∧ (¬ (x5 < 0) → Ec S d 17 [.inr (some 1), .inl x4, .inl x5] σ (fun rv σ' => Ev S (d + 1) 88 70 [some (.inr (some 0)), o1, some (.inr (some p2)), some (.inl x3), some (.inl x4), some (.inl x5)] (rv ++ []) σ' Q)))) : Ev S (d + 1) 88 63 [some (.inr (some 0)), o1, some (.inr (some p2)), some (.inl x3), some (.inl x4), some (.inl x5)] [] σ Q := by
  refine e_load q_88 rfl rfl rfl ?_
  refine e_if (P := x5 < 0) q_88 rfl m_c2 (fun c => ?_) (fun c => ?_)
  · replace h := h.1 c
    refine e_iinc (ls' := [some (.inr (some 0)), o1, some (.inr (some p2)), some (.inl x3), some (.inl (x4 + 1)), some (.inl x5)]) q_88 rfl rfl rfl ?_
    refine e_goto q_88 rfl ?_
    exact h
  · replace h := h.2 c
    refine e_load q_88 rfl rfl rfl ?_
    refine e_getR q_88 rfl rfl rfl ?_
    refine e_load q_88 rfl rfl rfl ?_
    refine e_load q_88 rfl rfl rfl ?_
    exact e_virt q_88 rfl rfl (Nat.le_of_ble_eq_true rfl) rfl rfl (Nat.le_of_ble_eq_true rfl) rfl h
theorem g_88_70 {S : Nat × (Nat → Int32)} {d : Nat} {σ : Mem} {Q : MQ1} {o1 : Option MV} {p2 p2n : Nat} {x3 : Int32} {x4 : Int32} {o5 : Option MV} (hp2 : isSt p2 p2n) (h : Ev S (d + 1) 88 47 [some (.inr (some 0)), o1, some (.inr (some p2)), some (.inl x3), some (.inl (x4 + 1)), o5] [] σ Q) : Ev S (d + 1) 88 70 [some (.inr (some 0)), o1, some (.inr (some p2)), some (.inl x3), some (.inl x4), o5] [] σ Q := by
  refine e_iinc (ls' := [some (.inr (some 0)), o1, some (.inr (some p2)), some (.inl x3), some (.inl (x4 + 1)), o5]) q_88 rfl rfl rfl ?_
  refine e_goto q_88 rfl ?_
  exact h
theorem q_89 : m_code 89 = mc_89 := rfl
theorem g_89_0 {S : Nat × (Nat → Int32)} {d : Nat} {σ : Mem} {Q : MQ1} {x1 : Int32} {x2 : Int32}  (h : Ec S d 113 [.inr (some 0), .inl 5, .inl x1, .inl x2] σ (fun rv σ' => Ev S (d + 1) 89 5 [some (.inr (some 0)), some (.inl x1), some (.inl x2)] (rv ++ []) σ' Q)) : Ev S (d + 1) 89 0 [some (.inr (some 0)), some (.inl x1), some (.inl x2)] [] σ Q := by
  refine e_load q_89 rfl rfl rfl ?_
  refine e_push q_89 rfl ?_
  refine e_load q_89 rfl rfl rfl ?_
  refine e_load q_89 rfl rfl rfl ?_
  exact e_virt q_89 rfl rfl (Nat.le_of_ble_eq_true rfl) rfl rfl (Nat.le_of_ble_eq_true rfl) rfl h
theorem g_89_5 {S : Nat × (Nat → Int32)} {d : Nat} {σ : Mem} {Q : MQ1} {o0 : Option MV} {o1 : Option MV} {o2 : Option MV} {y0 : Int32}  (h : Q [.inl y0] σ) : Ev S (d + 1) 89 5 [o0, o1, o2] [.inl y0] σ Q := by
  exact e_ireturn q_89 rfl rfl h
theorem q_90 : m_code 90 = mc_90 := rfl
theorem g_90_0 {S : Nat × (Nat → Int32)} {d : Nat} {σ : Mem} {Q : MQ1} {x1 : Int32} {x2 : Int32}  (h : Ec S d 113 [.inr (some 0), .inl 6, .inl x1, .inl x2] σ (fun rv σ' => Ev S (d + 1) 90 5 [some (.inr (some 0)), some (.inl x1), some (.inl x2)] (rv ++ []) σ' Q)) : Ev S (d + 1) 90 0 [some (.inr (some 0)), some (.inl x1), some (.inl x2)] [] σ Q := by
  refine e_load q_90 rfl rfl rfl ?_
  refine e_push q_90 rfl ?_
  refine e_load q_90 rfl rfl rfl ?_
  refine e_load q_90 rfl rfl rfl ?_
  exact e_virt q_90 rfl rfl (Nat.le_of_ble_eq_true rfl) rfl rfl (Nat.le_of_ble_eq_true rfl) rfl h
theorem g_90_5 {S : Nat × (Nat → Int32)} {d : Nat} {σ : Mem} {Q : MQ1} {o0 : Option MV} {o1 : Option MV} {o2 : Option MV} {y0 : Int32}  (h : Q [.inl y0] σ) : Ev S (d + 1) 90 5 [o0, o1, o2] [.inl y0] σ Q := by
  exact e_ireturn q_90 rfl rfl h
theorem q_91 : m_code 91 = mc_91 := rfl
theorem g_91_0 {S : Nat × (Nat → Int32)} {d : Nat} {σ : Mem} {Q : MQ1}   (h : Ec S d 29 [.inr (some 3)] σ (fun rv σ' => Ev S (d + 1) 91 3 [some (.inr (some 0))] (rv ++ []) σ' Q)) : Ev S (d + 1) 91 0 [some (.inr (some 0))] [] σ Q := by
  refine e_load q_91 rfl rfl rfl ?_
  refine e_getR q_91 rfl rfl rfl ?_
  exact e_virt q_91 rfl rfl (Nat.le_of_ble_eq_true rfl) rfl rfl (Nat.le_of_ble_eq_true rfl) rfl h
theorem g_91_3 {S : Nat × (Nat → Int32)} {d : Nat} {σ : Mem} {Q : MQ1} {o0 : Option MV} {y0 : Int32}  (h : Q [.inl y0] σ) : Ev S (d + 1) 91 3 [o0] [.inl y0] σ Q := by
  exact e_ireturn q_91 rfl rfl h
theorem q_92 : m_code 92 = mc_92 := rfl
theorem g_92_0 {S : Nat × (Nat → Int32)} {d : Nat} {σ : Mem} {Q : MQ1} {x1 : Int32}  (h : Ec S d 108 [.inl x1] σ (fun rv σ' => Ev S (d + 1) 92 2 [some (.inr (some 0)), some (.inl x1)] (rv ++ []) σ' Q)) : Ev S (d + 1) 92 0 [some (.inr (some 0)), some (.inl x1)] [] σ Q := by
  refine e_load q_92 rfl rfl rfl ?_
  exact e_stat q_92 rfl (Nat.le_of_ble_eq_true rfl) rfl rfl (Nat.le_of_ble_eq_true rfl) h
theorem g_92_2 {S : Nat × (Nat → Int32)} {d : Nat} {σ : Mem} {Q : MQ1} {x1 : Int32} {y0 : Int32}  (h : ((y0 = 0 → Ec S d 30 [.inr (some 3), .inl x1] σ (fun rv σ' => Ev S (d + 1) 92 11 [some (.inr (some 0)), some (.inl x1)] (rv ++ []) σ' Q)) ∧ (¬ (y0 = 0) → Ec S d 105 [.inr (some 0), .inl (-100001)] σ (fun rv σ' => Ev S (d + 1) 92 6 [some (.inr (some 0)), some (.inl x1)] (rv ++ []) σ' Q)))) : Ev S (d + 1) 92 2 [some (.inr (some 0)), some (.inl x1)] [.inl y0] σ Q := by
  refine e_if (P := y0 = 0) q_92 rfl m_c0 (fun c => ?_) (fun c => ?_)
  · replace h := h.1 c
    refine e_load q_92 rfl rfl rfl ?_
    refine e_getR q_92 rfl rfl rfl ?_
    refine e_load q_92 rfl rfl rfl ?_
    exact e_virt q_92 rfl rfl (Nat.le_of_ble_eq_true rfl) rfl rfl (Nat.le_of_ble_eq_true rfl) rfl h
  · replace h := h.2 c
    refine e_load q_92 rfl rfl rfl ?_
    refine e_push q_92 rfl ?_
    exact e_virt q_92 rfl rfl (Nat.le_of_ble_eq_true rfl) rfl rfl (Nat.le_of_ble_eq_true rfl) rfl h
theorem g_92_11 {S : Nat × (Nat → Int32)} {d : Nat} {σ : Mem} {Q : MQ1} {o0 : Option MV} {o1 : Option MV} {y0 : Int32}  (h : Q [.inl y0] σ) : Ev S (d + 1) 92 11 [o0, o1] [.inl y0] σ Q := by
  exact e_ireturn q_92 rfl rfl h
theorem g_92_6 {S : Nat × (Nat → Int32)} {d : Nat} {σ : Mem} {Q : MQ1} {o0 : Option MV} {o1 : Option MV} {y0 : Int32}  (h : Q [.inl y0] σ) : Ev S (d + 1) 92 6 [o0, o1] [.inl y0] σ Q := by
  refine e_goto q_92 rfl ?_
  exact e_ireturn q_92 rfl rfl h
theorem q_93 : m_code 93 = mc_93 := rfl
theorem g_93_0 {S : Nat × (Nat → Int32)} {d : Nat} {σ : Mem} {Q : MQ1}   (h : Ev S (d + 1) 93 4 [some (.inr (some 0)), some (.inl 0), some (.inl 0), none] [] σ Q) : Ev S (d + 1) 93 0 [some (.inr (some 0)), none, none, none] [] σ Q := by
  refine e_push q_93 rfl ?_
  refine e_store (ls' := [some (.inr (some 0)), some (.inl 0), none, none]) q_93 rfl (Nat.le_of_ble_eq_true rfl) rfl rfl ?_
  refine e_push q_93 rfl ?_
  refine e_store (ls' := [some (.inr (some 0)), some (.inl 0), some (.inl 0), none]) q_93 rfl (Nat.le_of_ble_eq_true rfl) rfl rfl ?_
  exact h
theorem g_93_4 {S : Nat × (Nat → Int32)} {d : Nat} {σ : Mem} {Q : MQ1} {x1 : Int32} {x2 : Int32} {o3 : Option MV}  (h : ((6 ≤ x2 → Q [.inl x1] σ) ∧ (¬ (6 ≤ x2) → Ec S d 30 [.inr (some 3), .inl x2] σ (fun rv σ' => Ev S (d + 1) 93 11 [some (.inr (some 0)), some (.inl x1), some (.inl x2), o3] (rv ++ []) σ' Q)))) : Ev S (d + 1) 93 4 [some (.inr (some 0)), some (.inl x1), some (.inl x2), o3] [] σ Q := by
  refine e_load q_93 rfl rfl rfl ?_
  refine e_push q_93 rfl ?_
  refine e_icmp (P := 6 ≤ x2) q_93 rfl m_c3 (fun c => ?_) (fun c => ?_)
  · replace h := h.1 c
    refine e_load q_93 rfl rfl rfl ?_
    exact e_ireturn q_93 rfl rfl h
  · replace h := h.2 c
    refine e_load q_93 rfl rfl rfl ?_
    refine e_getR q_93 rfl rfl rfl ?_
    refine e_load q_93 rfl rfl rfl ?_
    exact e_virt q_93 rfl rfl (Nat.le_of_ble_eq_true rfl) rfl rfl (Nat.le_of_ble_eq_true rfl) rfl h
theorem g_93_11 {S : Nat × (Nat → Int32)} {d : Nat} {σ : Mem} {Q : MQ1} {x1 : Int32} {x2 : Int32} {o3 : Option MV} {y0 : Int32}  (h : Ev S (d + 1) 93 4 [some (.inr (some 0)), some (.inl (x1 + (y0 * y0))), some (.inl (x2 + 1)), some (.inl y0)] [] σ Q) : Ev S (d + 1) 93 11 [some (.inr (some 0)), some (.inl x1), some (.inl x2), o3] [.inl y0] σ Q := by
  refine e_store (ls' := [some (.inr (some 0)), some (.inl x1), some (.inl x2), some (.inl y0)]) q_93 rfl (Nat.le_of_ble_eq_true rfl) rfl rfl ?_
  refine e_load q_93 rfl rfl rfl ?_
  refine e_load q_93 rfl rfl rfl ?_
  refine e_load q_93 rfl rfl rfl ?_
  refine e_bin (r := y0 * y0) q_93 rfl rfl ?_
  refine e_bin (r := x1 + (y0 * y0)) q_93 rfl rfl ?_
  refine e_store (ls' := [some (.inr (some 0)), some (.inl (x1 + (y0 * y0))), some (.inl x2), some (.inl y0)]) q_93 rfl (Nat.le_of_ble_eq_true rfl) rfl rfl ?_
  refine e_iinc (ls' := [some (.inr (some 0)), some (.inl (x1 + (y0 * y0))), some (.inl (x2 + 1)), some (.inl y0)]) q_93 rfl rfl rfl ?_
  refine e_goto q_93 rfl ?_
  exact h
theorem q_94 : m_code 94 = mc_94 := rfl
theorem g_94_0 {S : Nat × (Nat → Int32)} {d : Nat} {σ : Mem} {Q : MQ1} {x1 : Int32}  (h : Ec S d 114 [.inr (some 0), .inl 0, .inl x1] σ (fun rv σ' => Ev S (d + 1) 94 4 [some (.inr (some 0)), some (.inl x1)] (rv ++ []) σ' Q)) : Ev S (d + 1) 94 0 [some (.inr (some 0)), some (.inl x1)] [] σ Q := by
  refine e_load q_94 rfl rfl rfl ?_
  refine e_push q_94 rfl ?_
  refine e_load q_94 rfl rfl rfl ?_
  exact e_virt q_94 rfl rfl (Nat.le_of_ble_eq_true rfl) rfl rfl (Nat.le_of_ble_eq_true rfl) rfl h
theorem g_94_4 {S : Nat × (Nat → Int32)} {d : Nat} {σ : Mem} {Q : MQ1} {o0 : Option MV} {o1 : Option MV} {y0 : Int32}  (h : Q [.inl y0] σ) : Ev S (d + 1) 94 4 [o0, o1] [.inl y0] σ Q := by
  exact e_ireturn q_94 rfl rfl h
theorem q_95 : m_code 95 = mc_95 := rfl
theorem g_95_0 {S : Nat × (Nat → Int32)} {d : Nat} {σ : Mem} {Q : MQ1}   (h : Ec S d 114 [.inr (some 0), .inl 2, .inl 0] σ (fun rv σ' => Ev S (d + 1) 95 4 [some (.inr (some 0))] (rv ++ []) σ' Q)) : Ev S (d + 1) 95 0 [some (.inr (some 0))] [] σ Q := by
  refine e_load q_95 rfl rfl rfl ?_
  refine e_push q_95 rfl ?_
  refine e_push q_95 rfl ?_
  exact e_virt q_95 rfl rfl (Nat.le_of_ble_eq_true rfl) rfl rfl (Nat.le_of_ble_eq_true rfl) rfl h
theorem g_95_4 {S : Nat × (Nat → Int32)} {d : Nat} {σ : Mem} {Q : MQ1} {o0 : Option MV} {y0 : Int32}  (h : Q [.inl y0] σ) : Ev S (d + 1) 95 4 [o0] [.inl y0] σ Q := by
  exact e_ireturn q_95 rfl rfl h
theorem q_96 : m_code 96 = mc_96 := rfl
theorem g_96_0 {S : Nat × (Nat → Int32)} {d : Nat} {σ : Mem} {Q : MQ1} {x1 : Int32}  (h : Ec S d 114 [.inr (some 0), .inl 1, .inl x1] σ (fun rv σ' => Ev S (d + 1) 96 4 [some (.inr (some 0)), some (.inl x1)] (rv ++ []) σ' Q)) : Ev S (d + 1) 96 0 [some (.inr (some 0)), some (.inl x1)] [] σ Q := by
  refine e_load q_96 rfl rfl rfl ?_
  refine e_push q_96 rfl ?_
  refine e_load q_96 rfl rfl rfl ?_
  exact e_virt q_96 rfl rfl (Nat.le_of_ble_eq_true rfl) rfl rfl (Nat.le_of_ble_eq_true rfl) rfl h
theorem g_96_4 {S : Nat × (Nat → Int32)} {d : Nat} {σ : Mem} {Q : MQ1} {o0 : Option MV} {o1 : Option MV} {y0 : Int32}  (h : Q [.inl y0] σ) : Ev S (d + 1) 96 4 [o0, o1] [.inl y0] σ Q := by
  exact e_ireturn q_96 rfl rfl h
theorem q_97 : m_code 97 = mc_97 := rfl
theorem g_97_0 {S : Nat × (Nat → Int32)} {d : Nat} {σ : Mem} {Q : MQ1} {x1 : Int32} {x2 : Int32}  (h : Ec S d 108 [.inl x1] σ (fun rv σ' => Ev S (d + 1) 97 2 [some (.inr (some 0)), some (.inl x1), some (.inl x2), none, none, none, none] (rv ++ []) σ' Q)) : Ev S (d + 1) 97 0 [some (.inr (some 0)), some (.inl x1), some (.inl x2), none, none, none, none] [] σ Q := by
  refine e_load q_97 rfl rfl rfl ?_
  exact e_stat q_97 rfl (Nat.le_of_ble_eq_true rfl) rfl rfl (Nat.le_of_ble_eq_true rfl) h
theorem g_97_2 {S : Nat × (Nat → Int32)} {d : Nat} {σ : Mem} {Q : MQ1} {x1 : Int32} {x2 : Int32} {o3 : Option MV} {o4 : Option MV} {o5 : Option MV} {o6 : Option MV} {y0 : Int32}  (h : ((y0 = 0 → Ev S (d + 1) 97 13 [some (.inr (some 0)), some (.inl x1), some (.inl x2), some (.inl 0), some (.inl 0), some (.inl 0), o6] [] σ Q) ∧ (¬ (y0 = 0) → Ec S d 105 [.inr (some 0), .inl (-100001)] σ (fun rv σ' => Ev S (d + 1) 97 6 [some (.inr (some 0)), some (.inl x1), some (.inl x2), o3, o4, o5, o6] (rv ++ []) σ' Q)))) : Ev S (d + 1) 97 2 [some (.inr (some 0)), some (.inl x1), some (.inl x2), o3, o4, o5, o6] [.inl y0] σ Q := by
  refine e_if (P := y0 = 0) q_97 rfl m_c0 (fun c => ?_) (fun c => ?_)
  · replace h := h.1 c
    refine e_push q_97 rfl ?_
    refine e_store (ls' := [some (.inr (some 0)), some (.inl x1), some (.inl x2), some (.inl 0), o4, o5, o6]) q_97 rfl (Nat.le_of_ble_eq_true rfl) rfl rfl ?_
    refine e_push q_97 rfl ?_
    refine e_store (ls' := [some (.inr (some 0)), some (.inl x1), some (.inl x2), some (.inl 0), some (.inl 0), o5, o6]) q_97 rfl (Nat.le_of_ble_eq_true rfl) rfl rfl ?_
    refine e_push q_97 rfl ?_
    refine e_store (ls' := [some (.inr (some 0)), some (.inl x1), some (.inl x2), some (.inl 0), some (.inl 0), some (.inl 0), o6]) q_97 rfl (Nat.le_of_ble_eq_true rfl) rfl rfl ?_
    exact h
  · replace h := h.2 c
    refine e_load q_97 rfl rfl rfl ?_
    refine e_push q_97 rfl ?_
    exact e_virt q_97 rfl rfl (Nat.le_of_ble_eq_true rfl) rfl rfl (Nat.le_of_ble_eq_true rfl) rfl h
theorem g_97_13 {S : Nat × (Nat → Int32)} {d : Nat} {σ : Mem} {Q : MQ1} {x1 : Int32} {x2 : Int32} {x3 : Int32} {x4 : Int32} {x5 : Int32} {o6 : Option MV}  (h : Ec S d 7 [.inr (some 1)] σ (fun rv σ' => Ev S (d + 1) 97 17 [some (.inr (some 0)), some (.inl x1), some (.inl x2), some (.inl x3), some (.inl x4), some (.inl x5), o6] (rv ++ [.inl x5]) σ' Q)) : Ev S (d + 1) 97 13 [some (.inr (some 0)), some (.inl x1), some (.inl x2), some (.inl x3), some (.inl x4), some (.inl x5), o6] [] σ Q := by
  refine e_load q_97 rfl rfl rfl ?_
  refine e_load q_97 rfl rfl rfl ?_
  refine e_getR q_97 rfl rfl rfl ?_
  exact e_virt q_97 rfl rfl (Nat.le_of_ble_eq_true rfl) rfl rfl (Nat.le_of_ble_eq_true rfl) rfl h
theorem g_97_6 {S : Nat × (Nat → Int32)} {d : Nat} {σ : Mem} {Q : MQ1} {o0 : Option MV} {o1 : Option MV} {o2 : Option MV} {o3 : Option MV} {o4 : Option MV} {o5 : Option MV} {o6 : Option MV} {y0 : Int32}  (h : Q [.inl y0] σ) : Ev S (d + 1) 97 6 [o0, o1, o2, o3, o4, o5, o6] [.inl y0] σ Q := by
  exact e_ireturn q_97 rfl rfl h
theorem g_97_17 {S : Nat × (Nat → Int32)} {d : Nat} {σ : Mem} {Q : MQ1} {x1 : Int32} {x2 : Int32} {x3 : Int32} {x4 : Int32} {x5 : Int32} {o6 : Option MV} {y0 : Int32} {y1 : Int32}  (h : ((y1 ≤ y0 → Ec S d 15 [.inr (some 1), .inl x4] σ (fun rv σ' => Ev S (d + 1) 97 50 [some (.inr (some 0)), some (.inl x1), some (.inl x2), some (.inl x3), some (.inl x4), some (.inl x5), o6] (rv ++ [.inl x3]) σ' Q)) ∧ (¬ (y1 ≤ y0) → Ec S d 8 [.inr (some 1), .inl 5, .inl x5] σ (fun rv σ' => Ev S (d + 1) 97 23 [some (.inr (some 0)), some (.inl x1), some (.inl x2), some (.inl x3), some (.inl x4), some (.inl x5), o6] (rv ++ []) σ' Q)))) : Ev S (d + 1) 97 17 [some (.inr (some 0)), some (.inl x1), some (.inl x2), some (.inl x3), some (.inl x4), some (.inl x5), o6] [.inl y1, .inl y0] σ Q := by
  refine e_icmp (P := y1 ≤ y0) q_97 rfl m_c3 (fun c => ?_) (fun c => ?_)
  · replace h := h.1 c
    refine e_load q_97 rfl rfl rfl ?_
    refine e_load q_97 rfl rfl rfl ?_
    refine e_getR q_97 rfl rfl rfl ?_
    refine e_load q_97 rfl rfl rfl ?_
    exact e_virt q_97 rfl rfl (Nat.le_of_ble_eq_true rfl) rfl rfl (Nat.le_of_ble_eq_true rfl) rfl h
  · replace h := h.2 c
    refine e_load q_97 rfl rfl rfl ?_
    refine e_getR q_97 rfl rfl rfl ?_
    refine e_push q_97 rfl ?_
    refine e_load q_97 rfl rfl rfl ?_
    exact e_virt q_97 rfl rfl (Nat.le_of_ble_eq_true rfl) rfl rfl (Nat.le_of_ble_eq_true rfl) rfl h
theorem g_97_50 {S : Nat × (Nat → Int32)} {d : Nat} {σ : Mem} {Q : MQ1} {o1 : Option MV} {x2 : Int32} {o3 : Option MV} {o4 : Option MV} {o5 : Option MV} {o6 : Option MV} {y0 : Int32} {y1 : Int32}  (h : ((x2 = 0 → Q [.inl (y0 &&& y1)] σ) ∧ (¬ (x2 = 0) → Ec S d 115 [.inr (some 0), .inl (y0 &&& y1)] σ (fun rv σ' => Ev S (d + 1) 97 57 [some (.inr (some 0)), o1, some (.inl x2), o3, o4, some (.inl (y0 &&& y1)), o6] (rv ++ []) σ' Q)))) : Ev S (d + 1) 97 50 [some (.inr (some 0)), o1, some (.inl x2), o3, o4, o5, o6] [.inl y1, .inl y0] σ Q := by
  refine e_bin (r := y0 &&& y1) q_97 rfl rfl ?_
  refine e_store (ls' := [some (.inr (some 0)), o1, some (.inl x2), o3, o4, some (.inl (y0 &&& y1)), o6]) q_97 rfl (Nat.le_of_ble_eq_true rfl) rfl rfl ?_
  refine e_load q_97 rfl rfl rfl ?_
  refine e_if (P := x2 = 0) q_97 rfl m_c0 (fun c => ?_) (fun c => ?_)
  · replace h := h.1 c
    refine e_load q_97 rfl rfl rfl ?_
    exact e_ireturn q_97 rfl rfl h
  · replace h := h.2 c
    refine e_load q_97 rfl rfl rfl ?_
    refine e_load q_97 rfl rfl rfl ?_
    exact e_virt q_97 rfl rfl (Nat.le_of_ble_eq_true rfl) rfl rfl (Nat.le_of_ble_eq_true rfl) rfl h
theorem g_97_23 {S : Nat × (Nat → Int32)} {d : Nat} {σ : Mem} {Q : MQ1} {x1 : Int32} {x2 : Int32} {x3 : Int32} {x4 : Int32} {x5 : Int32} {o6 : Option MV} {y0 : Int32}  (h : ((y0 < x1 → ((y0 = (-1) → Ev S (d + 1) 97 13 [some (.inr (some 0)), some (.inl x1), some (.inl x2), some (.inl x3), some (.inl x4), some (.inl (x5 + 1)), some (.inl y0)] [] σ Q) ∧ (¬ (y0 = (-1)) → Ev S (d + 1) 97 13 [some (.inr (some 0)), some (.inl x1), some (.inl x2), some (.inl (x3 ||| (1 <<< (x5 &&& 31)))), some (.inl x4), some (.inl (x5 + 1)), some (.inl y0)] [] σ Q))) ∧ (¬ (y0 < x1) → Ev S (d + 1) 97 13 [some (.inr (some 0)), some (.inl x1), some (.inl x2), some (.inl x3), some (.inl (x4 ||| (1 <<< (x5 &&& 31)))), some (.inl (x5 + 1)), some (.inl y0)] [] σ Q))) : Ev S (d + 1) 97 23 [some (.inr (some 0)), some (.inl x1), some (.inl x2), some (.inl x3), some (.inl x4), some (.inl x5), o6] [.inl y0] σ Q := by
  refine e_store (ls' := [some (.inr (some 0)), some (.inl x1), some (.inl x2), some (.inl x3), some (.inl x4), some (.inl x5), some (.inl y0)]) q_97 rfl (Nat.le_of_ble_eq_true rfl) rfl rfl ?_
  refine e_load q_97 rfl rfl rfl ?_
  refine e_load q_97 rfl rfl rfl ?_
  refine e_icmp (P := y0 < x1) q_97 rfl m_c2 (fun c => ?_) (fun c => ?_)
  · replace h := h.1 c
    refine e_load q_97 rfl rfl rfl ?_
    refine e_push q_97 rfl ?_
    refine e_icmp (P := y0 = (-1)) q_97 rfl m_c0 (fun c => ?_) (fun c => ?_)
    · replace h := h.1 c
      refine e_iinc (ls' := [some (.inr (some 0)), some (.inl x1), some (.inl x2), some (.inl x3), some (.inl x4), some (.inl (x5 + 1)), some (.inl y0)]) q_97 rfl rfl rfl ?_
      refine e_goto q_97 rfl ?_
      exact h
    · replace h := h.2 c
      refine e_load q_97 rfl rfl rfl ?_
      refine e_push q_97 rfl ?_
      refine e_load q_97 rfl rfl rfl ?_
      refine e_bin (r := 1 <<< (x5 &&& 31)) q_97 rfl rfl ?_
      refine e_bin (r := x3 ||| (1 <<< (x5 &&& 31))) q_97 rfl rfl ?_
      refine e_store (ls' := [some (.inr (some 0)), some (.inl x1), some (.inl x2), some (.inl (x3 ||| (1 <<< (x5 &&& 31)))), some (.inl x4), some (.inl x5), some (.inl y0)]) q_97 rfl (Nat.le_of_ble_eq_true rfl) rfl rfl ?_
      refine e_iinc (ls' := [some (.inr (some 0)), some (.inl x1), some (.inl x2), some (.inl (x3 ||| (1 <<< (x5 &&& 31)))), some (.inl x4), some (.inl (x5 + 1)), some (.inl y0)]) q_97 rfl rfl rfl ?_
      refine e_goto q_97 rfl ?_
      exact h
  · replace h := h.2 c
    refine e_load q_97 rfl rfl rfl ?_
    refine e_push q_97 rfl ?_
    refine e_load q_97 rfl rfl rfl ?_
    refine e_bin (r := 1 <<< (x5 &&& 31)) q_97 rfl rfl ?_
    refine e_bin (r := x4 ||| (1 <<< (x5 &&& 31))) q_97 rfl rfl ?_
    refine e_store (ls' := [some (.inr (some 0)), some (.inl x1), some (.inl x2), some (.inl x3), some (.inl (x4 ||| (1 <<< (x5 &&& 31)))), some (.inl x5), some (.inl y0)]) q_97 rfl (Nat.le_of_ble_eq_true rfl) rfl rfl ?_
    refine e_goto q_97 rfl ?_
    refine e_iinc (ls' := [some (.inr (some 0)), some (.inl x1), some (.inl x2), some (.inl x3), some (.inl (x4 ||| (1 <<< (x5 &&& 31)))), some (.inl (x5 + 1)), some (.inl y0)]) q_97 rfl rfl rfl ?_
    refine e_goto q_97 rfl ?_
    exact h
theorem g_97_57 {S : Nat × (Nat → Int32)} {d : Nat} {σ : Mem} {Q : MQ1} {o0 : Option MV} {o1 : Option MV} {o2 : Option MV} {o3 : Option MV} {o4 : Option MV} {o5 : Option MV} {o6 : Option MV} {y0 : Int32}  (h : Q [.inl y0] σ) : Ev S (d + 1) 97 57 [o0, o1, o2, o3, o4, o5, o6] [.inl y0] σ Q := by
  refine e_goto q_97 rfl ?_
  exact e_ireturn q_97 rfl rfl h
theorem q_98 : m_code 98 = mc_98 := rfl
theorem g_98_0 {S : Nat × (Nat → Int32)} {d : Nat} {σ : Mem} {Q : MQ1} {x1 : Int32}  (h : Ev S (d + 1) 98 4 [some (.inr (some 0)), some (.inl x1), some (.inl 0), some (.inl 0)] [] σ Q) : Ev S (d + 1) 98 0 [some (.inr (some 0)), some (.inl x1), none, none] [] σ Q := by
  refine e_push q_98 rfl ?_
  refine e_store (ls' := [some (.inr (some 0)), some (.inl x1), some (.inl 0), none]) q_98 rfl (Nat.le_of_ble_eq_true rfl) rfl rfl ?_
  refine e_push q_98 rfl ?_
  refine e_store (ls' := [some (.inr (some 0)), some (.inl x1), some (.inl 0), some (.inl 0)]) q_98 rfl (Nat.le_of_ble_eq_true rfl) rfl rfl ?_
  exact h
theorem g_98_4 {S : Nat × (Nat → Int32)} {d : Nat} {σ : Mem} {Q : MQ1} {x1 : Int32} {x2 : Int32} {x3 : Int32}  (h : Ec S d 7 [.inr (some 1)] σ (fun rv σ' => Ev S (d + 1) 98 8 [some (.inr (some 0)), some (.inl x1), some (.inl x2), some (.inl x3)] (rv ++ [.inl x3]) σ' Q)) : Ev S (d + 1) 98 4 [some (.inr (some 0)), some (.inl x1), some (.inl x2), some (.inl x3)] [] σ Q := by
  refine e_load q_98 rfl rfl rfl ?_
  refine e_load q_98 rfl rfl rfl ?_
  refine e_getR q_98 rfl rfl rfl ?_
  exact e_virt q_98 rfl rfl (Nat.le_of_ble_eq_true rfl) rfl rfl (Nat.le_of_ble_eq_true rfl) rfl h
theorem g_98_8 {S : Nat × (Nat → Int32)} {d : Nat} {σ : Mem} {Q : MQ1} {x1 : Int32} {x2 : Int32} {x3 : Int32} {y0 : Int32} {y1 : Int32}  (h : ((y1 ≤ y0 → ((x1 = 0 → Q [.inl x2] σ) ∧ (¬ (x1 = 0) → Q [.inl (65535 &&& (x2 ^^^ (-1)))] σ))) ∧ (¬ (y1 ≤ y0) → Ec S d 13 [.inr (some 1), .inl x3] σ (fun rv σ' => Ev S (d + 1) 98 13 [some (.inr (some 0)), some (.inl x1), some (.inl x2), some (.inl x3)] (rv ++ []) σ' Q)))) : Ev S (d + 1) 98 8 [some (.inr (some 0)), some (.inl x1), some (.inl x2), some (.inl x3)] [.inl y1, .inl y0] σ Q := by
  refine e_icmp (P := y1 ≤ y0) q_98 rfl m_c3 (fun c => ?_) (fun c => ?_)
  · replace h := h.1 c
    refine e_load q_98 rfl rfl rfl ?_
    refine e_if (P := x1 = 0) q_98 rfl m_c0 (fun c => ?_) (fun c => ?_)
    · replace h := h.1 c
      refine e_load q_98 rfl rfl rfl ?_
      exact e_ireturn q_98 rfl rfl h
    · replace h := h.2 c
      refine e_push q_98 rfl ?_
      refine e_load q_98 rfl rfl rfl ?_
      refine e_push q_98 rfl ?_
      refine e_bin (r := x2 ^^^ (-1)) q_98 rfl rfl ?_
      refine e_bin (r := 65535 &&& (x2 ^^^ (-1))) q_98 rfl rfl ?_
      refine e_goto q_98 rfl ?_
      exact e_ireturn q_98 rfl rfl h
  · replace h := h.2 c
    refine e_load q_98 rfl rfl rfl ?_
    refine e_getR q_98 rfl rfl rfl ?_
    refine e_load q_98 rfl rfl rfl ?_
    exact e_virt q_98 rfl rfl (Nat.le_of_ble_eq_true rfl) rfl rfl (Nat.le_of_ble_eq_true rfl) rfl h
theorem g_98_13 {S : Nat × (Nat → Int32)} {d : Nat} {σ : Mem} {Q : MQ1} {x1 : Int32} {x2 : Int32} {x3 : Int32} {y0 : Int32}  (h : ((y0 = 0 → Ev S (d + 1) 98 4 [some (.inr (some 0)), some (.inl x1), some (.inl x2), some (.inl (x3 + 1))] [] σ Q) ∧ (¬ (y0 = 0) → Ec S d 8 [.inr (some 1), .inl 4, .inl x3] σ (fun rv σ' => Ev S (d + 1) 98 20 [some (.inr (some 0)), some (.inl x1), some (.inl x2), some (.inl x3)] (rv ++ [.inl x2]) σ' Q)))) : Ev S (d + 1) 98 13 [some (.inr (some 0)), some (.inl x1), some (.inl x2), some (.inl x3)] [.inl y0] σ Q := by
  refine e_if (P := y0 = 0) q_98 rfl m_c0 (fun c => ?_) (fun c => ?_)
  · replace h := h.1 c
    refine e_iinc (ls' := [some (.inr (some 0)), some (.inl x1), some (.inl x2), some (.inl (x3 + 1))]) q_98 rfl rfl rfl ?_
    refine e_goto q_98 rfl ?_
    exact h
  · replace h := h.2 c
    refine e_load q_98 rfl rfl rfl ?_
    refine e_load q_98 rfl rfl rfl ?_
    refine e_getR q_98 rfl rfl rfl ?_
    refine e_push q_98 rfl ?_
    refine e_load q_98 rfl rfl rfl ?_
    exact e_virt q_98 rfl rfl (Nat.le_of_ble_eq_true rfl) rfl rfl (Nat.le_of_ble_eq_true rfl) rfl h
theorem g_98_20 {S : Nat × (Nat → Int32)} {d : Nat} {σ : Mem} {Q : MQ1} {x1 : Int32} {o2 : Option MV} {x3 : Int32} {y0 : Int32} {y1 : Int32}  (h : Ev S (d + 1) 98 4 [some (.inr (some 0)), some (.inl x1), some (.inl (y0 ||| y1)), some (.inl (x3 + 1))] [] σ Q) : Ev S (d + 1) 98 20 [some (.inr (some 0)), some (.inl x1), o2, some (.inl x3)] [.inl y1, .inl y0] σ Q := by
  refine e_bin (r := y0 ||| y1) q_98 rfl rfl ?_
  refine e_store (ls' := [some (.inr (some 0)), some (.inl x1), some (.inl (y0 ||| y1)), some (.inl x3)]) q_98 rfl (Nat.le_of_ble_eq_true rfl) rfl rfl ?_
  refine e_iinc (ls' := [some (.inr (some 0)), some (.inl x1), some (.inl (y0 ||| y1)), some (.inl (x3 + 1))]) q_98 rfl rfl rfl ?_
  refine e_goto q_98 rfl ?_
  exact h
theorem q_99 : m_code 99 = mc_99 := rfl
theorem g_99_0 {S : Nat × (Nat → Int32)} {d : Nat} {σ : Mem} {Q : MQ1} {x1 : Int32}  (h : ((x1 < 0 → Ec S d 105 [.inr (some 0), .inl (-100001)] σ (fun rv σ' => Ev S (d + 1) 99 8 [some (.inr (some 0)), some (.inl x1), none, none] (rv ++ []) σ' Q)) ∧ (¬ (x1 < 0) → ((x1 ≤ 15 → Ev S (d + 1) 99 13 [some (.inr (some 0)), some (.inl x1), some (.inl (-1)), some (.inl 0)] [] σ Q) ∧ (¬ (x1 ≤ 15) → Ec S d 105 [.inr (some 0), .inl (-100001)] σ (fun rv σ' => Ev S (d + 1) 99 8 [some (.inr (some 0)), some (.inl x1), none, none] (rv ++ []) σ' Q)))))) : Ev S (d + 1) 99 0 [some (.inr (some 0)), some (.inl x1), none, none] [] σ Q := by
  refine e_load q_99 rfl rfl rfl ?_
  refine e_if (P := x1 < 0) q_99 rfl m_c2 (fun c => ?_) (fun c => ?_)
  · replace h := h.1 c
    refine e_load q_99 rfl rfl rfl ?_
    refine e_push q_99 rfl ?_
    exact e_virt q_99 rfl rfl (Nat.le_of_ble_eq_true rfl) rfl rfl (Nat.le_of_ble_eq_true rfl) rfl h
  · replace h := h.2 c
    refine e_load q_99 rfl rfl rfl ?_
    refine e_push q_99 rfl ?_
    refine e_icmp (P := x1 ≤ 15) q_99 rfl m_c5 (fun c => ?_) (fun c => ?_)
    · replace h := h.1 c
      refine e_push q_99 rfl ?_
      refine e_store (ls' := [some (.inr (some 0)), some (.inl x1), some (.inl (-1)), none]) q_99 rfl (Nat.le_of_ble_eq_true rfl) rfl rfl ?_
      refine e_push q_99 rfl ?_
      refine e_store (ls' := [some (.inr (some 0)), some (.inl x1), some (.inl (-1)), some (.inl 0)]) q_99 rfl (Nat.le_of_ble_eq_true rfl) rfl rfl ?_
      exact h
    · replace h := h.2 c
      refine e_load q_99 rfl rfl rfl ?_
      refine e_push q_99 rfl ?_
      exact e_virt q_99 rfl rfl (Nat.le_of_ble_eq_true rfl) rfl rfl (Nat.le_of_ble_eq_true rfl) rfl h
theorem g_99_8 {S : Nat × (Nat → Int32)} {d : Nat} {σ : Mem} {Q : MQ1} {o0 : Option MV} {o1 : Option MV} {o2 : Option MV} {o3 : Option MV} {y0 : Int32}  (h : Q [.inl y0] σ) : Ev S (d + 1) 99 8 [o0, o1, o2, o3] [.inl y0] σ Q := by
  exact e_ireturn q_99 rfl rfl h
theorem g_99_13 {S : Nat × (Nat → Int32)} {d : Nat} {σ : Mem} {Q : MQ1} {x1 : Int32} {x2 : Int32} {x3 : Int32}  (h : Ec S d 7 [.inr (some 1)] σ (fun rv σ' => Ev S (d + 1) 99 17 [some (.inr (some 0)), some (.inl x1), some (.inl x2), some (.inl x3)] (rv ++ [.inl x3]) σ' Q)) : Ev S (d + 1) 99 13 [some (.inr (some 0)), some (.inl x1), some (.inl x2), some (.inl x3)] [] σ Q := by
  refine e_load q_99 rfl rfl rfl ?_
  refine e_load q_99 rfl rfl rfl ?_
  refine e_getR q_99 rfl rfl rfl ?_
  exact e_virt q_99 rfl rfl (Nat.le_of_ble_eq_true rfl) rfl rfl (Nat.le_of_ble_eq_true rfl) rfl h
theorem g_99_17 {S : Nat × (Nat → Int32)} {d : Nat} {σ : Mem} {Q : MQ1} {x1 : Int32} {x2 : Int32} {x3 : Int32} {y0 : Int32} {y1 : Int32}  (h : ((y1 ≤ y0 → (((¬ x2 = (-1)) → Q [.inl x2] σ) ∧ (¬ (¬ x2 = (-1)) → Ec S d 105 [.inr (some 0), .inl (-100006)] σ (fun rv σ' => Ev S (d + 1) 99 48 [some (.inr (some 0)), some (.inl x1), some (.inl x2), some (.inl x3)] (rv ++ []) σ' Q)))) ∧ (¬ (y1 ≤ y0) → Ec S d 13 [.inr (some 1), .inl x3] σ (fun rv σ' => Ev S (d + 1) 99 22 [some (.inr (some 0)), some (.inl x1), some (.inl x2), some (.inl x3)] (rv ++ []) σ' Q)))) : Ev S (d + 1) 99 17 [some (.inr (some 0)), some (.inl x1), some (.inl x2), some (.inl x3)] [.inl y1, .inl y0] σ Q := by
  refine e_icmp (P := y1 ≤ y0) q_99 rfl m_c3 (fun c => ?_) (fun c => ?_)
  · replace h := h.1 c
    refine e_load q_99 rfl rfl rfl ?_
    refine e_push q_99 rfl ?_
    refine e_icmp (P := ¬ x2 = (-1)) q_99 rfl m_c1 (fun c => ?_) (fun c => ?_)
    · replace h := h.1 c
      refine e_load q_99 rfl rfl rfl ?_
      exact e_ireturn q_99 rfl rfl h
    · replace h := h.2 c
      refine e_load q_99 rfl rfl rfl ?_
      refine e_push q_99 rfl ?_
      exact e_virt q_99 rfl rfl (Nat.le_of_ble_eq_true rfl) rfl rfl (Nat.le_of_ble_eq_true rfl) rfl h
  · replace h := h.2 c
    refine e_load q_99 rfl rfl rfl ?_
    refine e_getR q_99 rfl rfl rfl ?_
    refine e_load q_99 rfl rfl rfl ?_
    exact e_virt q_99 rfl rfl (Nat.le_of_ble_eq_true rfl) rfl rfl (Nat.le_of_ble_eq_true rfl) rfl h
theorem g_99_48 {S : Nat × (Nat → Int32)} {d : Nat} {σ : Mem} {Q : MQ1} {o0 : Option MV} {o1 : Option MV} {o2 : Option MV} {o3 : Option MV} {y0 : Int32}  (h : Q [.inl y0] σ) : Ev S (d + 1) 99 48 [o0, o1, o2, o3] [.inl y0] σ Q := by
  refine e_goto q_99 rfl ?_
  exact e_ireturn q_99 rfl rfl h
theorem g_99_22 {S : Nat × (Nat → Int32)} {d : Nat} {σ : Mem} {Q : MQ1} {x1 : Int32} {x2 : Int32} {x3 : Int32} {y0 : Int32}  (h : ((y0 = 0 → Ev S (d + 1) 99 13 [some (.inr (some 0)), some (.inl x1), some (.inl x2), some (.inl (x3 + 1))] [] σ Q) ∧ (¬ (y0 = 0) → Ec S d 8 [.inr (some 1), .inl 4, .inl x3] σ (fun rv σ' => Ev S (d + 1) 99 28 [some (.inr (some 0)), some (.inl x1), some (.inl x2), some (.inl x3)] (rv ++ []) σ' Q)))) : Ev S (d + 1) 99 22 [some (.inr (some 0)), some (.inl x1), some (.inl x2), some (.inl x3)] [.inl y0] σ Q := by
  refine e_if (P := y0 = 0) q_99 rfl m_c0 (fun c => ?_) (fun c => ?_)
  · replace h := h.1 c
    refine e_iinc (ls' := [some (.inr (some 0)), some (.inl x1), some (.inl x2), some (.inl (x3 + 1))]) q_99 rfl rfl rfl ?_
    refine e_goto q_99 rfl ?_
    exact h
  · replace h := h.2 c
    refine e_load q_99 rfl rfl rfl ?_
    refine e_getR q_99 rfl rfl rfl ?_
    refine e_push q_99 rfl ?_
    refine e_load q_99 rfl rfl rfl ?_
    exact e_virt q_99 rfl rfl (Nat.le_of_ble_eq_true rfl) rfl rfl (Nat.le_of_ble_eq_true rfl) rfl h
theorem g_99_28 {S : Nat × (Nat → Int32)} {d : Nat} {σ : Mem} {Q : MQ1} {x1 : Int32} {x2 : Int32} {x3 : Int32} {y0 : Int32}  (h : Ec S d 110 [.inl y0, .inl x1] σ (fun rv σ' => Ev S (d + 1) 99 30 [some (.inr (some 0)), some (.inl x1), some (.inl x2), some (.inl x3)] (rv ++ []) σ' Q)) : Ev S (d + 1) 99 28 [some (.inr (some 0)), some (.inl x1), some (.inl x2), some (.inl x3)] [.inl y0] σ Q := by
  refine e_load q_99 rfl rfl rfl ?_
  exact e_stat q_99 rfl (Nat.le_of_ble_eq_true rfl) rfl rfl (Nat.le_of_ble_eq_true rfl) h
theorem g_99_30 {S : Nat × (Nat → Int32)} {d : Nat} {σ : Mem} {Q : MQ1} {x1 : Int32} {x2 : Int32} {x3 : Int32} {y0 : Int32}  (h : ((y0 = 0 → Ev S (d + 1) 99 13 [some (.inr (some 0)), some (.inl x1), some (.inl x2), some (.inl (x3 + 1))] [] σ Q) ∧ (¬ (y0 = 0) → ((x2 = (-1) → Ev S (d + 1) 99 13 [some (.inr (some 0)), some (.inl x1), some (.inl x3), some (.inl (x3 + 1))] [] σ Q) ∧ (¬ (x2 = (-1)) → Ec S d 105 [.inr (some 0), .inl (-100006)] σ (fun rv σ' => Ev S (d + 1) 99 37 [some (.inr (some 0)), some (.inl x1), some (.inl x2), some (.inl x3)] (rv ++ []) σ' Q)))))) : Ev S (d + 1) 99 30 [some (.inr (some 0)), some (.inl x1), some (.inl x2), some (.inl x3)] [.inl y0] σ Q := by
  refine e_if (P := y0 = 0) q_99 rfl m_c0 (fun c => ?_) (fun c => ?_)
  · replace h := h.1 c
    refine e_iinc (ls' := [some (.inr (some 0)), some (.inl x1), some (.inl x2), some (.inl (x3 + 1))]) q_99 rfl rfl rfl ?_
    refine e_goto q_99 rfl ?_
    exact h
  · replace h := h.2 c
    refine e_load q_99 rfl rfl rfl ?_
    refine e_push q_99 rfl ?_
    refine e_icmp (P := x2 = (-1)) q_99 rfl m_c0 (fun c => ?_) (fun c => ?_)
    · replace h := h.1 c
      refine e_load q_99 rfl rfl rfl ?_
      refine e_store (ls' := [some (.inr (some 0)), some (.inl x1), some (.inl x3), some (.inl x3)]) q_99 rfl (Nat.le_of_ble_eq_true rfl) rfl rfl ?_
      refine e_iinc (ls' := [some (.inr (some 0)), some (.inl x1), some (.inl x3), some (.inl (x3 + 1))]) q_99 rfl rfl rfl ?_
      refine e_goto q_99 rfl ?_
      exact h
    · replace h := h.2 c
      refine e_load q_99 rfl rfl rfl ?_
      refine e_push q_99 rfl ?_
      exact e_virt q_99 rfl rfl (Nat.le_of_ble_eq_true rfl) rfl rfl (Nat.le_of_ble_eq_true rfl) rfl h
theorem g_99_37 {S : Nat × (Nat → Int32)} {d : Nat} {σ : Mem} {Q : MQ1} {o0 : Option MV} {o1 : Option MV} {o2 : Option MV} {o3 : Option MV} {y0 : Int32}  (h : Q [.inl y0] σ) : Ev S (d + 1) 99 37 [o0, o1, o2, o3] [.inl y0] σ Q := by
  exact e_ireturn q_99 rfl rfl h
theorem q_100 : m_code 100 = mc_100 := rfl
theorem g_100_0 {S : Nat × (Nat → Int32)} {d : Nat} {σ : Mem} {Q : MQ1} {x1 : Int32} {x2 : Int32}  (h : Ec S d 106 [.inr (some 0), .inl x1] σ (fun rv σ' => Ev S (d + 1) 100 3 [some (.inr (some 0)), some (.inl x1), some (.inl x2), none] (rv ++ []) σ' Q)) : Ev S (d + 1) 100 0 [some (.inr (some 0)), some (.inl x1), some (.inl x2), none] [] σ Q := by
  refine e_load q_100 rfl rfl rfl ?_
  refine e_load q_100 rfl rfl rfl ?_
  exact e_virt q_100 rfl rfl (Nat.le_of_ble_eq_true rfl) rfl rfl (Nat.le_of_ble_eq_true rfl) rfl h
theorem g_100_3 {S : Nat × (Nat → Int32)} {d : Nat} {σ : Mem} {Q : MQ1} {x1 : Int32} {x2 : Int32} {o3 : Option MV} {y0 : Int32}  (h : (((¬ y0 = 0) → Ec S d 105 [.inr (some 0), .inl (-100001)] σ (fun rv σ' => Ev S (d + 1) 100 13 [some (.inr (some 0)), some (.inl x1), some (.inl x2), o3] (rv ++ []) σ' Q)) ∧ (¬ (¬ y0 = 0) → ((x2 < 1 → Ec S d 105 [.inr (some 0), .inl (-100001)] σ (fun rv σ' => Ev S (d + 1) 100 13 [some (.inr (some 0)), some (.inl x1), some (.inl x2), o3] (rv ++ []) σ' Q)) ∧ (¬ (x2 < 1) → ((x2 ≤ 100 → Ec S d 8 [.inr (some 1), .inl 7, .inl x1] σ (fun rv σ' => Ev S (d + 1) 100 19 [some (.inr (some 0)), some (.inl x1), some (.inl x2), o3] (rv ++ []) σ' Q)) ∧ (¬ (x2 ≤ 100) → Ec S d 105 [.inr (some 0), .inl (-100001)] σ (fun rv σ' => Ev S (d + 1) 100 13 [some (.inr (some 0)), some (.inl x1), some (.inl x2), o3] (rv ++ []) σ' Q)))))))) : Ev S (d + 1) 100 3 [some (.inr (some 0)), some (.inl x1), some (.inl x2), o3] [.inl y0] σ Q := by
  refine e_if (P := ¬ y0 = 0) q_100 rfl m_c1 (fun c => ?_) (fun c => ?_)
  · replace h := h.1 c
    refine e_load q_100 rfl rfl rfl ?_
    refine e_push q_100 rfl ?_
    exact e_virt q_100 rfl rfl (Nat.le_of_ble_eq_true rfl) rfl rfl (Nat.le_of_ble_eq_true rfl) rfl h
  · replace h := h.2 c
    refine e_load q_100 rfl rfl rfl ?_
    refine e_push q_100 rfl ?_
    refine e_icmp (P := x2 < 1) q_100 rfl m_c2 (fun c => ?_) (fun c => ?_)
    · replace h := h.1 c
      refine e_load q_100 rfl rfl rfl ?_
      refine e_push q_100 rfl ?_
      exact e_virt q_100 rfl rfl (Nat.le_of_ble_eq_true rfl) rfl rfl (Nat.le_of_ble_eq_true rfl) rfl h
    · replace h := h.2 c
      refine e_load q_100 rfl rfl rfl ?_
      refine e_push q_100 rfl ?_
      refine e_icmp (P := x2 ≤ 100) q_100 rfl m_c5 (fun c => ?_) (fun c => ?_)
      · replace h := h.1 c
        refine e_load q_100 rfl rfl rfl ?_
        refine e_getR q_100 rfl rfl rfl ?_
        refine e_push q_100 rfl ?_
        refine e_load q_100 rfl rfl rfl ?_
        exact e_virt q_100 rfl rfl (Nat.le_of_ble_eq_true rfl) rfl rfl (Nat.le_of_ble_eq_true rfl) rfl h
      · replace h := h.2 c
        refine e_load q_100 rfl rfl rfl ?_
        refine e_push q_100 rfl ?_
        exact e_virt q_100 rfl rfl (Nat.le_of_ble_eq_true rfl) rfl rfl (Nat.le_of_ble_eq_true rfl) rfl h
theorem g_100_13 {S : Nat × (Nat → Int32)} {d : Nat} {σ : Mem} {Q : MQ1} {o0 : Option MV} {o1 : Option MV} {o2 : Option MV} {o3 : Option MV} {y0 : Int32}  (h : Q [.inl y0] σ) : Ev S (d + 1) 100 13 [o0, o1, o2, o3] [.inl y0] σ Q := by
  exact e_ireturn q_100 rfl rfl h
theorem g_100_19 {S : Nat × (Nat → Int32)} {d : Nat} {σ : Mem} {Q : MQ1} {x1 : Int32} {x2 : Int32} {o3 : Option MV} {y0 : Int32}  (h : (((y0 + x2) ≤ 1000 → Ec S d 112 [.inr (some 0), .inl 7, .inl x1, .inl (y0 + x2)] σ (fun rv σ' => Ev S (d + 1) 100 34 [some (.inr (some 0)), some (.inl x1), some (.inl x2), some (.inl (y0 + x2))] (rv ++ []) σ' Q)) ∧ (¬ ((y0 + x2) ≤ 1000) → Ec S d 105 [.inr (some 0), .inl (-100005)] σ (fun rv σ' => Ev S (d + 1) 100 28 [some (.inr (some 0)), some (.inl x1), some (.inl x2), some (.inl (y0 + x2))] (rv ++ []) σ' Q)))) : Ev S (d + 1) 100 19 [some (.inr (some 0)), some (.inl x1), some (.inl x2), o3] [.inl y0] σ Q := by
  refine e_load q_100 rfl rfl rfl ?_
  refine e_bin (r := y0 + x2) q_100 rfl rfl ?_
  refine e_store (ls' := [some (.inr (some 0)), some (.inl x1), some (.inl x2), some (.inl (y0 + x2))]) q_100 rfl (Nat.le_of_ble_eq_true rfl) rfl rfl ?_
  refine e_load q_100 rfl rfl rfl ?_
  refine e_push q_100 rfl ?_
  refine e_icmp (P := (y0 + x2) ≤ 1000) q_100 rfl m_c5 (fun c => ?_) (fun c => ?_)
  · replace h := h.1 c
    refine e_load q_100 rfl rfl rfl ?_
    refine e_push q_100 rfl ?_
    refine e_load q_100 rfl rfl rfl ?_
    refine e_load q_100 rfl rfl rfl ?_
    exact e_virt q_100 rfl rfl (Nat.le_of_ble_eq_true rfl) rfl rfl (Nat.le_of_ble_eq_true rfl) rfl h
  · replace h := h.2 c
    refine e_load q_100 rfl rfl rfl ?_
    refine e_push q_100 rfl ?_
    exact e_virt q_100 rfl rfl (Nat.le_of_ble_eq_true rfl) rfl rfl (Nat.le_of_ble_eq_true rfl) rfl h
theorem g_100_34 {S : Nat × (Nat → Int32)} {d : Nat} {σ : Mem} {Q : MQ1} {o0 : Option MV} {o1 : Option MV} {o2 : Option MV} {x3 : Int32} {y0 : Int32}  (h : Q [.inl x3] σ) : Ev S (d + 1) 100 34 [o0, o1, o2, some (.inl x3)] [.inl y0] σ Q := by
  refine e_pop q_100 rfl ?_
  refine e_load q_100 rfl rfl rfl ?_
  exact e_ireturn q_100 rfl rfl h
theorem g_100_28 {S : Nat × (Nat → Int32)} {d : Nat} {σ : Mem} {Q : MQ1} {o0 : Option MV} {o1 : Option MV} {o2 : Option MV} {o3 : Option MV} {y0 : Int32}  (h : Q [.inl y0] σ) : Ev S (d + 1) 100 28 [o0, o1, o2, o3] [.inl y0] σ Q := by
  exact e_ireturn q_100 rfl rfl h
theorem q_101 : m_code 101 = mc_101 := rfl
theorem g_101_0 {S : Nat × (Nat → Int32)} {d : Nat} {σ : Mem} {Q : MQ1} {x1 : Int32} {x2 : Int32}  (h : Ec S d 106 [.inr (some 0), .inl x1] σ (fun rv σ' => Ev S (d + 1) 101 3 [some (.inr (some 0)), some (.inl x1), some (.inl x2)] (rv ++ []) σ' Q)) : Ev S (d + 1) 101 0 [some (.inr (some 0)), some (.inl x1), some (.inl x2)] [] σ Q := by
  refine e_load q_101 rfl rfl rfl ?_
  refine e_load q_101 rfl rfl rfl ?_
  exact e_virt q_101 rfl rfl (Nat.le_of_ble_eq_true rfl) rfl rfl (Nat.le_of_ble_eq_true rfl) rfl h
theorem g_101_3 {S : Nat × (Nat → Int32)} {d : Nat} {σ : Mem} {Q : MQ1} {x1 : Int32} {x2 : Int32} {y0 : Int32}  (h : (((¬ y0 = 0) → Ec S d 105 [.inr (some 0), .inl (-100001)] σ (fun rv σ' => Ev S (d + 1) 101 10 [some (.inr (some 0)), some (.inl x1), some (.inl x2)] (rv ++ []) σ' Q)) ∧ (¬ (¬ y0 = 0) → Ec S d 108 [.inl x2] σ (fun rv σ' => Ev S (d + 1) 101 6 [some (.inr (some 0)), some (.inl x1), some (.inl x2)] (rv ++ []) σ' Q)))) : Ev S (d + 1) 101 3 [some (.inr (some 0)), some (.inl x1), some (.inl x2)] [.inl y0] σ Q := by
  refine e_if (P := ¬ y0 = 0) q_101 rfl m_c1 (fun c => ?_) (fun c => ?_)
  · replace h := h.1 c
    refine e_load q_101 rfl rfl rfl ?_
    refine e_push q_101 rfl ?_
    exact e_virt q_101 rfl rfl (Nat.le_of_ble_eq_true rfl) rfl rfl (Nat.le_of_ble_eq_true rfl) rfl h
  · replace h := h.2 c
    refine e_load q_101 rfl rfl rfl ?_
    exact e_stat q_101 rfl (Nat.le_of_ble_eq_true rfl) rfl rfl (Nat.le_of_ble_eq_true rfl) h
theorem g_101_10 {S : Nat × (Nat → Int32)} {d : Nat} {σ : Mem} {Q : MQ1} {o0 : Option MV} {o1 : Option MV} {o2 : Option MV} {y0 : Int32}  (h : Q [.inl y0] σ) : Ev S (d + 1) 101 10 [o0, o1, o2] [.inl y0] σ Q := by
  exact e_ireturn q_101 rfl rfl h
theorem g_101_6 {S : Nat × (Nat → Int32)} {d : Nat} {σ : Mem} {Q : MQ1} {x1 : Int32} {x2 : Int32} {y0 : Int32}  (h : ((y0 = 0 → Ec S d 116 [.inr (some 0), .inl x1, .inl x2] σ (fun rv σ' => Ev S (d + 1) 101 15 [some (.inr (some 0)), some (.inl x1), some (.inl x2)] (rv ++ []) σ' Q)) ∧ (¬ (y0 = 0) → Ec S d 105 [.inr (some 0), .inl (-100001)] σ (fun rv σ' => Ev S (d + 1) 101 10 [some (.inr (some 0)), some (.inl x1), some (.inl x2)] (rv ++ []) σ' Q)))) : Ev S (d + 1) 101 6 [some (.inr (some 0)), some (.inl x1), some (.inl x2)] [.inl y0] σ Q := by
  refine e_if (P := y0 = 0) q_101 rfl m_c0 (fun c => ?_) (fun c => ?_)
  · replace h := h.1 c
    refine e_load q_101 rfl rfl rfl ?_
    refine e_load q_101 rfl rfl rfl ?_
    refine e_load q_101 rfl rfl rfl ?_
    exact e_virt q_101 rfl rfl (Nat.le_of_ble_eq_true rfl) rfl rfl (Nat.le_of_ble_eq_true rfl) rfl h
  · replace h := h.2 c
    refine e_load q_101 rfl rfl rfl ?_
    refine e_push q_101 rfl ?_
    exact e_virt q_101 rfl rfl (Nat.le_of_ble_eq_true rfl) rfl rfl (Nat.le_of_ble_eq_true rfl) rfl h
theorem g_101_15 {S : Nat × (Nat → Int32)} {d : Nat} {σ : Mem} {Q : MQ1} {o0 : Option MV} {o1 : Option MV} {o2 : Option MV} {y0 : Int32}  (h : Q [.inl y0] σ) : Ev S (d + 1) 101 15 [o0, o1, o2] [.inl y0] σ Q := by
  exact e_ireturn q_101 rfl rfl h
theorem q_102 : m_code 102 = mc_102 := rfl
theorem g_102_0 {S : Nat × (Nat → Int32)} {d : Nat} {σ : Mem} {Q : MQ1} {x1 : Int32}  (h : Ec S d 108 [.inl x1] σ (fun rv σ' => Ev S (d + 1) 102 2 [some (.inr (some 0)), some (.inl x1), none, none] (rv ++ []) σ' Q)) : Ev S (d + 1) 102 0 [some (.inr (some 0)), some (.inl x1), none, none] [] σ Q := by
  refine e_load q_102 rfl rfl rfl ?_
  exact e_stat q_102 rfl (Nat.le_of_ble_eq_true rfl) rfl rfl (Nat.le_of_ble_eq_true rfl) h
theorem g_102_2 {S : Nat × (Nat → Int32)} {d : Nat} {σ : Mem} {Q : MQ1} {x1 : Int32} {o2 : Option MV} {o3 : Option MV} {y0 : Int32}  (h : ((y0 = 0 → Ev S (d + 1) 102 11 [some (.inr (some 0)), some (.inl x1), some (.inl 0), some (.inl 0)] [] σ Q) ∧ (¬ (y0 = 0) → Ec S d 105 [.inr (some 0), .inl (-100001)] σ (fun rv σ' => Ev S (d + 1) 102 6 [some (.inr (some 0)), some (.inl x1), o2, o3] (rv ++ []) σ' Q)))) : Ev S (d + 1) 102 2 [some (.inr (some 0)), some (.inl x1), o2, o3] [.inl y0] σ Q := by
  refine e_if (P := y0 = 0) q_102 rfl m_c0 (fun c => ?_) (fun c => ?_)
  · replace h := h.1 c
    refine e_push q_102 rfl ?_
    refine e_store (ls' := [some (.inr (some 0)), some (.inl x1), some (.inl 0), o3]) q_102 rfl (Nat.le_of_ble_eq_true rfl) rfl rfl ?_
    refine e_push q_102 rfl ?_
    refine e_store (ls' := [some (.inr (some 0)), some (.inl x1), some (.inl 0), some (.inl 0)]) q_102 rfl (Nat.le_of_ble_eq_true rfl) rfl rfl ?_
    exact h
  · replace h := h.2 c
    refine e_load q_102 rfl rfl rfl ?_
    refine e_push q_102 rfl ?_
    exact e_virt q_102 rfl rfl (Nat.le_of_ble_eq_true rfl) rfl rfl (Nat.le_of_ble_eq_true rfl) rfl h
theorem g_102_11 {S : Nat × (Nat → Int32)} {d : Nat} {σ : Mem} {Q : MQ1} {x1 : Int32} {x2 : Int32} {x3 : Int32}  (h : Ec S d 7 [.inr (some 1)] σ (fun rv σ' => Ev S (d + 1) 102 15 [some (.inr (some 0)), some (.inl x1), some (.inl x2), some (.inl x3)] (rv ++ [.inl x3]) σ' Q)) : Ev S (d + 1) 102 11 [some (.inr (some 0)), some (.inl x1), some (.inl x2), some (.inl x3)] [] σ Q := by
  refine e_load q_102 rfl rfl rfl ?_
  refine e_load q_102 rfl rfl rfl ?_
  refine e_getR q_102 rfl rfl rfl ?_
  exact e_virt q_102 rfl rfl (Nat.le_of_ble_eq_true rfl) rfl rfl (Nat.le_of_ble_eq_true rfl) rfl h
theorem g_102_6 {S : Nat × (Nat → Int32)} {d : Nat} {σ : Mem} {Q : MQ1} {o0 : Option MV} {o1 : Option MV} {o2 : Option MV} {o3 : Option MV} {y0 : Int32}  (h : Q [.inl y0] σ) : Ev S (d + 1) 102 6 [o0, o1, o2, o3] [.inl y0] σ Q := by
  exact e_ireturn q_102 rfl rfl h
theorem g_102_15 {S : Nat × (Nat → Int32)} {d : Nat} {σ : Mem} {Q : MQ1} {x1 : Int32} {x2 : Int32} {x3 : Int32} {y0 : Int32} {y1 : Int32}  (h : ((y1 ≤ y0 → Q [.inl x2] σ) ∧ (¬ (y1 ≤ y0) → Ec S d 116 [.inr (some 0), .inl x3, .inl x1] σ (fun rv σ' => Ev S (d + 1) 102 22 [some (.inr (some 0)), some (.inl x1), some (.inl x2), some (.inl x3)] (rv ++ [.inl 0, .inl x2]) σ' Q)))) : Ev S (d + 1) 102 15 [some (.inr (some 0)), some (.inl x1), some (.inl x2), some (.inl x3)] [.inl y1, .inl y0] σ Q := by
  refine e_icmp (P := y1 ≤ y0) q_102 rfl m_c3 (fun c => ?_) (fun c => ?_)
  · replace h := h.1 c
    refine e_load q_102 rfl rfl rfl ?_
    exact e_ireturn q_102 rfl rfl h
  · replace h := h.2 c
    refine e_load q_102 rfl rfl rfl ?_
    refine e_push q_102 rfl ?_
    refine e_load q_102 rfl rfl rfl ?_
    refine e_load q_102 rfl rfl rfl ?_
    refine e_load q_102 rfl rfl rfl ?_
    exact e_virt q_102 rfl rfl (Nat.le_of_ble_eq_true rfl) rfl rfl (Nat.le_of_ble_eq_true rfl) rfl h
theorem g_102_22 {S : Nat × (Nat → Int32)} {d : Nat} {σ : Mem} {Q : MQ1} {x1 : Int32} {o2 : Option MV} {x3 : Int32} {y0 : Int32} {y1 : Int32} {y2 : Int32}  (h : Ec S d 8 [.inr (some 1), .inl 7, .inl x3] σ (fun rv σ' => Ev S (d + 1) 102 27 [some (.inr (some 0)), some (.inl x1), o2, some (.inl x3)] (rv ++ [.inl y2, .inl y1, .inl y0]) σ' Q)) : Ev S (d + 1) 102 22 [some (.inr (some 0)), some (.inl x1), o2, some (.inl x3)] [.inl y2, .inl y1, .inl y0] σ Q := by
  refine e_load q_102 rfl rfl rfl ?_
  refine e_getR q_102 rfl rfl rfl ?_
  refine e_push q_102 rfl ?_
  refine e_load q_102 rfl rfl rfl ?_
  exact e_virt q_102 rfl rfl (Nat.le_of_ble_eq_true rfl) rfl rfl (Nat.le_of_ble_eq_true rfl) rfl h
theorem g_102_27 {S : Nat × (Nat → Int32)} {d : Nat} {σ : Mem} {Q : MQ1} {x1 : Int32} {o2 : Option MV} {x3 : Int32} {y0 : Int32} {y1 : Int32} {y2 : Int32} {y3 : Int32}  (h : Ev S (d + 1) 102 11 [some (.inr (some 0)), some (.inl x1), some (.inl (y0 + (if y1 < y2 - y3 then y2 - y3 else y1))), some (.inl (x3 + 1))] [] σ Q) : Ev S (d + 1) 102 27 [some (.inr (some 0)), some (.inl x1), o2, some (.inl x3)] [.inl y3, .inl y2, .inl y1, .inl y0] σ Q := by
  refine e_bin (r := y2 - y3) q_102 rfl rfl ?_
  refine e_max (r := (if y1 < y2 - y3 then y2 - y3 else y1)) q_102 rfl (Nat.le_of_ble_eq_true rfl) rfl ?_
  refine e_bin (r := y0 + (if y1 < y2 - y3 then y2 - y3 else y1)) q_102 rfl rfl ?_
  refine e_store (ls' := [some (.inr (some 0)), some (.inl x1), some (.inl (y0 + (if y1 < y2 - y3 then y2 - y3 else y1))), some (.inl x3)]) q_102 rfl (Nat.le_of_ble_eq_true rfl) rfl rfl ?_
  refine e_iinc (ls' := [some (.inr (some 0)), some (.inl x1), some (.inl (y0 + (if y1 < y2 - y3 then y2 - y3 else y1))), some (.inl (x3 + 1))]) q_102 rfl rfl rfl ?_
  refine e_goto q_102 rfl ?_
  exact h
theorem q_103 : m_code 103 = mc_103 := rfl
theorem g_103_0 {S : Nat × (Nat → Int32)} {d : Nat} {σ : Mem} {Q : MQ1}   (h : Ec S d 25 [.inr (some 24)] σ (fun rv σ' => Ev S (d + 1) 103 3 [some (.inr (some 0))] (rv ++ []) σ' Q)) : Ev S (d + 1) 103 0 [some (.inr (some 0))] [] σ Q := by
  refine e_load q_103 rfl rfl rfl ?_
  refine e_getR q_103 rfl rfl rfl ?_
  exact e_virt q_103 rfl rfl (Nat.le_of_ble_eq_true rfl) rfl rfl (Nat.le_of_ble_eq_true rfl) rfl h
theorem g_103_3 {S : Nat × (Nat → Int32)} {d : Nat} {σ : Mem} {Q : MQ1} {y0 : Int32}  (h : ((y0 = 0 → Ec S d 27 [.inr (some 24), .inr (some 1)] σ (fun rv σ' => Ev S (d + 1) 103 13 [some (.inr (some 0))] (rv ++ []) σ' Q)) ∧ (¬ (y0 = 0) → Ec S d 105 [.inr (some 0), .inl (-100006)] σ (fun rv σ' => Ev S (d + 1) 103 7 [some (.inr (some 0))] (rv ++ []) σ' Q)))) : Ev S (d + 1) 103 3 [some (.inr (some 0))] [.inl y0] σ Q := by
  refine e_if (P := y0 = 0) q_103 rfl m_c0 (fun c => ?_) (fun c => ?_)
  · replace h := h.1 c
    refine e_load q_103 rfl rfl rfl ?_
    refine e_getR q_103 rfl rfl rfl ?_
    refine e_load q_103 rfl rfl rfl ?_
    refine e_getR q_103 rfl rfl rfl ?_
    exact e_virt q_103 rfl rfl (Nat.le_of_ble_eq_true rfl) rfl rfl (Nat.le_of_ble_eq_true rfl) rfl h
  · replace h := h.2 c
    refine e_load q_103 rfl rfl rfl ?_
    refine e_push q_103 rfl ?_
    exact e_virt q_103 rfl rfl (Nat.le_of_ble_eq_true rfl) rfl rfl (Nat.le_of_ble_eq_true rfl) rfl h
theorem g_103_13 {S : Nat × (Nat → Int32)} {d : Nat} {σ : Mem} {Q : MQ1} {o0 : Option MV} {y0 : Int32}  (h : Q [.inl y0] σ) : Ev S (d + 1) 103 13 [o0] [.inl y0] σ Q := by
  exact e_ireturn q_103 rfl rfl h
theorem g_103_7 {S : Nat × (Nat → Int32)} {d : Nat} {σ : Mem} {Q : MQ1} {o0 : Option MV} {y0 : Int32}  (h : Q [.inl y0] σ) : Ev S (d + 1) 103 7 [o0] [.inl y0] σ Q := by
  refine e_goto q_103 rfl ?_
  exact e_ireturn q_103 rfl rfl h
theorem q_104 : m_code 104 = mc_104 := rfl
theorem g_104_0 {S : Nat × (Nat → Int32)} {d : Nat} {σ : Mem} {Q : MQ1} {x1 : Int32}  (h : ((x1 = 0 → Ec S d 7 [.inr (some 1)] σ (fun rv σ' => Ev S (d + 1) 104 5 [some (.inr (some 0)), some (.inl x1)] (rv ++ []) σ' Q)) ∧ (x1 = 1 → Ec S d 20 [.inr (some 1)] σ (fun rv σ' => Ev S (d + 1) 104 9 [some (.inr (some 0)), some (.inl x1)] (rv ++ []) σ' Q)) ∧ (x1 = 2 → Ec S d 22 [.inr (some 1)] σ (fun rv σ' => Ev S (d + 1) 104 13 [some (.inr (some 0)), some (.inl x1)] (rv ++ []) σ' Q)) ∧ (x1 = 3 → Q [.inl (σ 0 5)] σ) ∧ ((∀ j : Nat, j < 4 → ¬ x1 = 0 + nI j) → Ec S d 105 [.inr (some 0), .inl (-100001)] σ (fun rv σ' => Ev S (d + 1) 104 20 [some (.inr (some 0)), some (.inl x1)] (rv ++ []) σ' Q)))) : Ev S (d + 1) 104 0 [some (.inr (some 0)), some (.inl x1)] [] σ Q := by
  refine e_load q_104 rfl rfl rfl ?_
  refine e_switch q_104 rfl ?_
  rcases m_sw (x := x1) (t := 17) (lo := 0) (ts := [2, 6, 10, 14]) (by decide) (by decide) (by decide) with ⟨j, hj, hl, hx⟩ | ⟨hx, hn⟩
  · match j, hj, hl, hx with
    | 0, hj, hl, hx =>
      rw [show m_swt 17 0 [2, 6, 10, 14] (x1) = 2 from hx]
      replace h := h.1 (hj.trans (by decide +kernel))
      refine e_load q_104 rfl rfl rfl ?_
      refine e_getR q_104 rfl rfl rfl ?_
      exact e_virt q_104 rfl rfl (Nat.le_of_ble_eq_true rfl) rfl rfl (Nat.le_of_ble_eq_true rfl) rfl h
    | 1, hj, hl, hx =>
      rw [show m_swt 17 0 [2, 6, 10, 14] (x1) = 6 from hx]
      replace h := h.2.1 (hj.trans (by decide +kernel))
      refine e_load q_104 rfl rfl rfl ?_
      refine e_getR q_104 rfl rfl rfl ?_
      exact e_virt q_104 rfl rfl (Nat.le_of_ble_eq_true rfl) rfl rfl (Nat.le_of_ble_eq_true rfl) rfl h
    | 2, hj, hl, hx =>
      rw [show m_swt 17 0 [2, 6, 10, 14] (x1) = 10 from hx]
      replace h := h.2.2.1 (hj.trans (by decide +kernel))
      refine e_load q_104 rfl rfl rfl ?_
      refine e_getR q_104 rfl rfl rfl ?_
      exact e_virt q_104 rfl rfl (Nat.le_of_ble_eq_true rfl) rfl rfl (Nat.le_of_ble_eq_true rfl) rfl h
    | 3, hj, hl, hx =>
      rw [show m_swt 17 0 [2, 6, 10, 14] (x1) = 14 from hx]
      replace h := h.2.2.2.1 (hj.trans (by decide +kernel))
      refine e_load q_104 rfl rfl rfl ?_
      refine e_getI q_104 rfl rfl rfl ?_
      exact e_ireturn q_104 rfl rfl h
    | j + 4, hj, hl, hx => exact absurd hl (show ¬ j + 4 < 4 by omega)
  · rw [hx]
    replace h := h.2.2.2.2 hn
    refine e_load q_104 rfl rfl rfl ?_
    refine e_push q_104 rfl ?_
    exact e_virt q_104 rfl rfl (Nat.le_of_ble_eq_true rfl) rfl rfl (Nat.le_of_ble_eq_true rfl) rfl h
theorem g_104_5 {S : Nat × (Nat → Int32)} {d : Nat} {σ : Mem} {Q : MQ1} {o0 : Option MV} {o1 : Option MV} {y0 : Int32}  (h : Q [.inl y0] σ) : Ev S (d + 1) 104 5 [o0, o1] [.inl y0] σ Q := by
  exact e_ireturn q_104 rfl rfl h
theorem g_104_9 {S : Nat × (Nat → Int32)} {d : Nat} {σ : Mem} {Q : MQ1} {o0 : Option MV} {o1 : Option MV} {y0 : Int32}  (h : Q [.inl y0] σ) : Ev S (d + 1) 104 9 [o0, o1] [.inl y0] σ Q := by
  exact e_ireturn q_104 rfl rfl h
theorem g_104_13 {S : Nat × (Nat → Int32)} {d : Nat} {σ : Mem} {Q : MQ1} {o0 : Option MV} {o1 : Option MV} {y0 : Int32}  (h : Q [.inl y0] σ) : Ev S (d + 1) 104 13 [o0, o1] [.inl y0] σ Q := by
  exact e_ireturn q_104 rfl rfl h
theorem g_104_20 {S : Nat × (Nat → Int32)} {d : Nat} {σ : Mem} {Q : MQ1} {o0 : Option MV} {o1 : Option MV} {y0 : Int32}  (h : Q [.inl y0] σ) : Ev S (d + 1) 104 20 [o0, o1] [.inl y0] σ Q := by
  exact e_ireturn q_104 rfl rfl h
theorem q_105 : m_code 105 = mc_105 := rfl
theorem g_105_0 {S : Nat × (Nat → Int32)} {d : Nat} {σ : Mem} {Q : MQ1} {x1 : Int32}  (h : Q [.inl x1] (up σ 0 5 ((σ 0 5) + 1))) : Ev S d 105 0 [some (.inr (some 0)), some (.inl x1)] [] σ Q := by
  refine e_load q_105 rfl rfl rfl ?_
  refine e_dup q_105 rfl ?_
  refine e_getI q_105 rfl rfl rfl ?_
  refine e_push q_105 rfl ?_
  refine e_bin (r := (σ 0 5) + 1) q_105 rfl rfl ?_
  refine e_putI q_105 rfl rfl rfl ?_
  refine e_load q_105 rfl rfl rfl ?_
  exact e_ireturn q_105 rfl rfl h
theorem q_106 : m_code 106 = mc_106 := rfl
theorem g_106_0 {S : Nat × (Nat → Int32)} {d : Nat} {σ : Mem} {Q : MQ1} {x1 : Int32}  (h : ((x1 < 0 → Q [.inl 1] σ) ∧ (¬ (x1 < 0) → Ec S d 7 [.inr (some 1)] σ (fun rv σ' => Ev S (d + 1) 106 6 [some (.inr (some 0)), some (.inl x1)] (rv ++ [.inl x1]) σ' Q)))) : Ev S (d + 1) 106 0 [some (.inr (some 0)), some (.inl x1)] [] σ Q := by
  refine e_load q_106 rfl rfl rfl ?_
  refine e_if (P := x1 < 0) q_106 rfl m_c2 (fun c => ?_) (fun c => ?_)
  · replace h := h.1 c
    refine e_push q_106 rfl ?_
    refine e_goto q_106 rfl ?_
    exact e_zreturn q_106 rfl rfl (by decide) h
  · replace h := h.2 c
    refine e_load q_106 rfl rfl rfl ?_
    refine e_load q_106 rfl rfl rfl ?_
    refine e_getR q_106 rfl rfl rfl ?_
    exact e_virt q_106 rfl rfl (Nat.le_of_ble_eq_true rfl) rfl rfl (Nat.le_of_ble_eq_true rfl) rfl h
theorem g_106_6 {S : Nat × (Nat → Int32)} {d : Nat} {σ : Mem} {Q : MQ1} {o0 : Option MV} {o1 : Option MV} {y0 : Int32} {y1 : Int32}  (h : ((y0 < y1 → Q [.inl 0] σ) ∧ (¬ (y0 < y1) → Q [.inl 1] σ))) : Ev S (d + 1) 106 6 [o0, o1] [.inl y1, .inl y0] σ Q := by
  refine e_icmp (P := y0 < y1) q_106 rfl m_c2 (fun c => ?_) (fun c => ?_)
  · replace h := h.1 c
    refine e_push q_106 rfl ?_
    exact e_zreturn q_106 rfl rfl (by decide) h
  · replace h := h.2 c
    refine e_push q_106 rfl ?_
    refine e_goto q_106 rfl ?_
    exact e_zreturn q_106 rfl rfl (by decide) h
theorem q_107 : m_code 107 = mc_107 := rfl
theorem g_107_0 {S : Nat × (Nat → Int32)} {d : Nat} {σ : Mem} {Q : MQ1} {x0 : Int32}  (h : ((x0 < 0 → Q [.inl 1] σ) ∧ (¬ (x0 < 0) → ((x0 ≤ 3 → Q [.inl 0] σ) ∧ (¬ (x0 ≤ 3) → Q [.inl 1] σ))))) : Ev S d 107 0 [some (.inl x0)] [] σ Q := by
  refine e_load q_107 rfl rfl rfl ?_
  refine e_if (P := x0 < 0) q_107 rfl m_c2 (fun c => ?_) (fun c => ?_)
  · replace h := h.1 c
    refine e_push q_107 rfl ?_
    refine e_goto q_107 rfl ?_
    exact e_zreturn q_107 rfl rfl (by decide) h
  · replace h := h.2 c
    refine e_load q_107 rfl rfl rfl ?_
    refine e_push q_107 rfl ?_
    refine e_icmp (P := x0 ≤ 3) q_107 rfl m_c5 (fun c => ?_) (fun c => ?_)
    · replace h := h.1 c
      refine e_push q_107 rfl ?_
      exact e_zreturn q_107 rfl rfl (by decide) h
    · replace h := h.2 c
      refine e_push q_107 rfl ?_
      refine e_goto q_107 rfl ?_
      exact e_zreturn q_107 rfl rfl (by decide) h
theorem q_108 : m_code 108 = mc_108 := rfl
theorem g_108_0 {S : Nat × (Nat → Int32)} {d : Nat} {σ : Mem} {Q : MQ1} {x0 : Int32}  (h : ((x0 < 0 → Q [.inl 1] σ) ∧ (¬ (x0 < 0) → ((x0 < 6 → Q [.inl 0] σ) ∧ (¬ (x0 < 6) → Q [.inl 1] σ))))) : Ev S d 108 0 [some (.inl x0)] [] σ Q := by
  refine e_load q_108 rfl rfl rfl ?_
  refine e_if (P := x0 < 0) q_108 rfl m_c2 (fun c => ?_) (fun c => ?_)
  · replace h := h.1 c
    refine e_push q_108 rfl ?_
    refine e_goto q_108 rfl ?_
    exact e_zreturn q_108 rfl rfl (by decide) h
  · replace h := h.2 c
    refine e_load q_108 rfl rfl rfl ?_
    refine e_push q_108 rfl ?_
    refine e_icmp (P := x0 < 6) q_108 rfl m_c2 (fun c => ?_) (fun c => ?_)
    · replace h := h.1 c
      refine e_push q_108 rfl ?_
      exact e_zreturn q_108 rfl rfl (by decide) h
    · replace h := h.2 c
      refine e_push q_108 rfl ?_
      refine e_goto q_108 rfl ?_
      exact e_zreturn q_108 rfl rfl (by decide) h
theorem q_109 : m_code 109 = mc_109 := rfl
theorem g_109_0 {S : Nat × (Nat → Int32)} {d : Nat} {σ : Mem} {Q : MQ1} {x0 : Int32}  (h : ((x0 < 0 → Q [.inl 1] σ) ∧ (¬ (x0 < 0) → ((x0 < 4 → Q [.inl 0] σ) ∧ (¬ (x0 < 4) → Q [.inl 1] σ))))) : Ev S d 109 0 [some (.inl x0)] [] σ Q := by
  refine e_load q_109 rfl rfl rfl ?_
  refine e_if (P := x0 < 0) q_109 rfl m_c2 (fun c => ?_) (fun c => ?_)
  · replace h := h.1 c
    refine e_push q_109 rfl ?_
    refine e_goto q_109 rfl ?_
    exact e_zreturn q_109 rfl rfl (by decide) h
  · replace h := h.2 c
    refine e_load q_109 rfl rfl rfl ?_
    refine e_push q_109 rfl ?_
    refine e_icmp (P := x0 < 4) q_109 rfl m_c2 (fun c => ?_) (fun c => ?_)
    · replace h := h.1 c
      refine e_push q_109 rfl ?_
      exact e_zreturn q_109 rfl rfl (by decide) h
    · replace h := h.2 c
      refine e_push q_109 rfl ?_
      refine e_goto q_109 rfl ?_
      exact e_zreturn q_109 rfl rfl (by decide) h
theorem q_110 : m_code 110 = mc_110 := rfl
theorem g_110_0 {S : Nat × (Nat → Int32)} {d : Nat} {σ : Mem} {Q : MQ1} {x0 : Int32} {x1 : Int32}  (h : ((((x0 >>> (x1 &&& 31)) &&& 1) = 0 → Q [.inl 0] σ) ∧ (¬ (((x0 >>> (x1 &&& 31)) &&& 1) = 0) → Q [.inl 1] σ))) : Ev S d 110 0 [some (.inl x0), some (.inl x1)] [] σ Q := by
  refine e_load q_110 rfl rfl rfl ?_
  refine e_load q_110 rfl rfl rfl ?_
  refine e_bin (r := x0 >>> (x1 &&& 31)) q_110 rfl rfl ?_
  refine e_push q_110 rfl ?_
  refine e_bin (r := (x0 >>> (x1 &&& 31)) &&& 1) q_110 rfl rfl ?_
  refine e_if (P := ((x0 >>> (x1 &&& 31)) &&& 1) = 0) q_110 rfl m_c0 (fun c => ?_) (fun c => ?_)
  · replace h := h.1 c
    refine e_push q_110 rfl ?_
    exact e_zreturn q_110 rfl rfl (by decide) h
  · replace h := h.2 c
    refine e_push q_110 rfl ?_
    refine e_goto q_110 rfl ?_
    exact e_zreturn q_110 rfl rfl (by decide) h
theorem q_111 : m_code 111 = mc_111 := rfl
theorem g_111_0 {S : Nat × (Nat → Int32)} {d : Nat} {σ : Mem} {Q : MQ1} {x0 : Int32} {x1 : Int32} {x2 : Int32}  (h : ((x2 = 0 → Q [.inl (x0 &&& ((1 <<< (x1 &&& 31)) ^^^ (-1)))] σ) ∧ (¬ (x2 = 0) → Q [.inl (x0 ||| (1 <<< (x1 &&& 31)))] σ))) : Ev S d 111 0 [some (.inl x0), some (.inl x1), some (.inl x2)] [] σ Q := by
  refine e_load q_111 rfl rfl rfl ?_
  refine e_if (P := x2 = 0) q_111 rfl m_c0 (fun c => ?_) (fun c => ?_)
  · replace h := h.1 c
    refine e_load q_111 rfl rfl rfl ?_
    refine e_push q_111 rfl ?_
    refine e_load q_111 rfl rfl rfl ?_
    refine e_bin (r := 1 <<< (x1 &&& 31)) q_111 rfl rfl ?_
    refine e_push q_111 rfl ?_
    refine e_bin (r := (1 <<< (x1 &&& 31)) ^^^ (-1)) q_111 rfl rfl ?_
    refine e_bin (r := x0 &&& ((1 <<< (x1 &&& 31)) ^^^ (-1))) q_111 rfl rfl ?_
    exact e_ireturn q_111 rfl rfl h
  · replace h := h.2 c
    refine e_load q_111 rfl rfl rfl ?_
    refine e_push q_111 rfl ?_
    refine e_load q_111 rfl rfl rfl ?_
    refine e_bin (r := 1 <<< (x1 &&& 31)) q_111 rfl rfl ?_
    refine e_bin (r := x0 ||| (1 <<< (x1 &&& 31))) q_111 rfl rfl ?_
    refine e_goto q_111 rfl ?_
    exact e_ireturn q_111 rfl rfl h
theorem q_112 : m_code 112 = mc_112 := rfl
theorem g_112_0 {S : Nat × (Nat → Int32)} {d : Nat} {σ : Mem} {Q : MQ1} {x1 : Int32} {x2 : Int32} {x3 : Int32}  (h : Ec S d 26 [.inr (some 24), .inr (some 1)] σ (fun rv σ' => Ev S (d + 1) 112 5 [some (.inr (some 0)), some (.inl x1), some (.inl x2), some (.inl x3), none] (rv ++ []) σ' Q)) : Ev S (d + 1) 112 0 [some (.inr (some 0)), some (.inl x1), some (.inl x2), some (.inl x3), none] [] σ Q := by
  refine e_load q_112 rfl rfl rfl ?_
  refine e_getR q_112 rfl rfl rfl ?_
  refine e_load q_112 rfl rfl rfl ?_
  refine e_getR q_112 rfl rfl rfl ?_
  exact e_virt q_112 rfl rfl (Nat.le_of_ble_eq_true rfl) rfl rfl (Nat.le_of_ble_eq_true rfl) rfl h
theorem g_112_5 {S : Nat × (Nat → Int32)} {d : Nat} {σ : Mem} {Q : MQ1} {x1 : Int32} {x2 : Int32} {x3 : Int32} {o4 : Option MV}  (h : Ec S d 8 [.inr (some 1), .inl x1, .inl x2] σ (fun rv σ' => Ev S (d + 1) 112 10 [some (.inr (some 0)), some (.inl x1), some (.inl x2), some (.inl x3), o4] (rv ++ []) σ' Q)) : Ev S (d + 1) 112 5 [some (.inr (some 0)), some (.inl x1), some (.inl x2), some (.inl x3), o4] [] σ Q := by
  refine e_load q_112 rfl rfl rfl ?_
  refine e_getR q_112 rfl rfl rfl ?_
  refine e_load q_112 rfl rfl rfl ?_
  refine e_load q_112 rfl rfl rfl ?_
  exact e_virt q_112 rfl rfl (Nat.le_of_ble_eq_true rfl) rfl rfl (Nat.le_of_ble_eq_true rfl) rfl h
theorem g_112_10 {S : Nat × (Nat → Int32)} {d : Nat} {σ : Mem} {Q : MQ1} {x1 : Int32} {x2 : Int32} {x3 : Int32} {o4 : Option MV} {y0 : Int32}  (h : Ec S d 9 [.inr (some 1), .inl x1, .inl x2, .inl x3] σ (fun rv σ' => Ev S (d + 1) 112 17 [some (.inr (some 0)), some (.inl x1), some (.inl x2), some (.inl x3), some (.inl y0)] (rv ++ []) σ' Q)) : Ev S (d + 1) 112 10 [some (.inr (some 0)), some (.inl x1), some (.inl x2), some (.inl x3), o4] [.inl y0] σ Q := by
  refine e_store (ls' := [some (.inr (some 0)), some (.inl x1), some (.inl x2), some (.inl x3), some (.inl y0)]) q_112 rfl (Nat.le_of_ble_eq_true rfl) rfl rfl ?_
  refine e_load q_112 rfl rfl rfl ?_
  refine e_getR q_112 rfl rfl rfl ?_
  refine e_load q_112 rfl rfl rfl ?_
  refine e_load q_112 rfl rfl rfl ?_
  refine e_load q_112 rfl rfl rfl ?_
  exact e_virt q_112 rfl rfl (Nat.le_of_ble_eq_true rfl) rfl rfl (Nat.le_of_ble_eq_true rfl) rfl h
theorem g_112_17 {S : Nat × (Nat → Int32)} {d : Nat} {σ : Mem} {Q : MQ1} {o0 : Option MV} {o1 : Option MV} {o2 : Option MV} {o3 : Option MV} {x4 : Int32}  (h : Q [.inl x4] σ) : Ev S (d + 1) 112 17 [o0, o1, o2, o3, some (.inl x4)] [] σ Q := by
  refine e_load q_112 rfl rfl rfl ?_
  exact e_ireturn q_112 rfl rfl h
theorem q_113 : m_code 113 = mc_113 := rfl
theorem g_113_0 {S : Nat × (Nat → Int32)} {d : Nat} {σ : Mem} {Q : MQ1} {x1 : Int32} {x2 : Int32} {x3 : Int32}  (h : Ec S d 106 [.inr (some 0), .inl x2] σ (fun rv σ' => Ev S (d + 1) 113 3 [some (.inr (some 0)), some (.inl x1), some (.inl x2), some (.inl x3)] (rv ++ []) σ' Q)) : Ev S (d + 1) 113 0 [some (.inr (some 0)), some (.inl x1), some (.inl x2), some (.inl x3)] [] σ Q := by
  refine e_load q_113 rfl rfl rfl ?_
  refine e_load q_113 rfl rfl rfl ?_
  exact e_virt q_113 rfl rfl (Nat.le_of_ble_eq_true rfl) rfl rfl (Nat.le_of_ble_eq_true rfl) rfl h
theorem g_113_3 {S : Nat × (Nat → Int32)} {d : Nat} {σ : Mem} {Q : MQ1} {x1 : Int32} {x2 : Int32} {x3 : Int32} {y0 : Int32}  (h : (((¬ y0 = 0) → Ec S d 105 [.inr (some 0), .inl (-100001)] σ (fun rv σ' => Ev S (d + 1) 113 13 [some (.inr (some 0)), some (.inl x1), some (.inl x2), some (.inl x3)] (rv ++ []) σ' Q)) ∧ (¬ (¬ y0 = 0) → ((x3 = (-1) → Ec S d 12 [.inr (some 1), .inl x2] σ (fun rv σ' => Ev S (d + 1) 113 18 [some (.inr (some 0)), some (.inl x1), some (.inl x2), some (.inl x3)] (rv ++ []) σ' Q)) ∧ (¬ (x3 = (-1)) → Ec S d 108 [.inl x3] σ (fun rv σ' => Ev S (d + 1) 113 9 [some (.inr (some 0)), some (.inl x1), some (.inl x2), some (.inl x3)] (rv ++ []) σ' Q)))))) : Ev S (d + 1) 113 3 [some (.inr (some 0)), some (.inl x1), some (.inl x2), some (.inl x3)] [.inl y0] σ Q := by
  refine e_if (P := ¬ y0 = 0) q_113 rfl m_c1 (fun c => ?_) (fun c => ?_)
  · replace h := h.1 c
    refine e_load q_113 rfl rfl rfl ?_
    refine e_push q_113 rfl ?_
    exact e_virt q_113 rfl rfl (Nat.le_of_ble_eq_true rfl) rfl rfl (Nat.le_of_ble_eq_true rfl) rfl h
  · replace h := h.2 c
    refine e_load q_113 rfl rfl rfl ?_
    refine e_push q_113 rfl ?_
    refine e_icmp (P := x3 = (-1)) q_113 rfl m_c0 (fun c => ?_) (fun c => ?_)
    · replace h := h.1 c
      refine e_load q_113 rfl rfl rfl ?_
      refine e_getR q_113 rfl rfl rfl ?_
      refine e_load q_113 rfl rfl rfl ?_
      exact e_virt q_113 rfl rfl (Nat.le_of_ble_eq_true rfl) rfl rfl (Nat.le_of_ble_eq_true rfl) rfl h
    · replace h := h.2 c
      refine e_load q_113 rfl rfl rfl ?_
      exact e_stat q_113 rfl (Nat.le_of_ble_eq_true rfl) rfl rfl (Nat.le_of_ble_eq_true rfl) h
theorem g_113_13 {S : Nat × (Nat → Int32)} {d : Nat} {σ : Mem} {Q : MQ1} {o0 : Option MV} {o1 : Option MV} {o2 : Option MV} {o3 : Option MV} {y0 : Int32}  (h : Q [.inl y0] σ) : Ev S (d + 1) 113 13 [o0, o1, o2, o3] [.inl y0] σ Q := by
  exact e_ireturn q_113 rfl rfl h
theorem g_113_18 {S : Nat × (Nat → Int32)} {d : Nat} {σ : Mem} {Q : MQ1} {x1 : Int32} {x2 : Int32} {x3 : Int32} {y0 : Int32}  (h : ((y0 = 0 → Ec S d 112 [.inr (some 0), .inl x1, .inl x2, .inl x3] σ (fun rv σ' => Ev S (d + 1) 113 28 [some (.inr (some 0)), some (.inl x1), some (.inl x2), some (.inl x3)] (rv ++ []) σ' Q)) ∧ (¬ (y0 = 0) → Ec S d 105 [.inr (some 0), .inl (-100004)] σ (fun rv σ' => Ev S (d + 1) 113 22 [some (.inr (some 0)), some (.inl x1), some (.inl x2), some (.inl x3)] (rv ++ []) σ' Q)))) : Ev S (d + 1) 113 18 [some (.inr (some 0)), some (.inl x1), some (.inl x2), some (.inl x3)] [.inl y0] σ Q := by
  refine e_if (P := y0 = 0) q_113 rfl m_c0 (fun c => ?_) (fun c => ?_)
  · replace h := h.1 c
    refine e_load q_113 rfl rfl rfl ?_
    refine e_load q_113 rfl rfl rfl ?_
    refine e_load q_113 rfl rfl rfl ?_
    refine e_load q_113 rfl rfl rfl ?_
    exact e_virt q_113 rfl rfl (Nat.le_of_ble_eq_true rfl) rfl rfl (Nat.le_of_ble_eq_true rfl) rfl h
  · replace h := h.2 c
    refine e_load q_113 rfl rfl rfl ?_
    refine e_push q_113 rfl ?_
    exact e_virt q_113 rfl rfl (Nat.le_of_ble_eq_true rfl) rfl rfl (Nat.le_of_ble_eq_true rfl) rfl h
theorem g_113_9 {S : Nat × (Nat → Int32)} {d : Nat} {σ : Mem} {Q : MQ1} {x1 : Int32} {x2 : Int32} {x3 : Int32} {y0 : Int32}  (h : ((y0 = 0 → Ec S d 12 [.inr (some 1), .inl x2] σ (fun rv σ' => Ev S (d + 1) 113 18 [some (.inr (some 0)), some (.inl x1), some (.inl x2), some (.inl x3)] (rv ++ []) σ' Q)) ∧ (¬ (y0 = 0) → Ec S d 105 [.inr (some 0), .inl (-100001)] σ (fun rv σ' => Ev S (d + 1) 113 13 [some (.inr (some 0)), some (.inl x1), some (.inl x2), some (.inl x3)] (rv ++ []) σ' Q)))) : Ev S (d + 1) 113 9 [some (.inr (some 0)), some (.inl x1), some (.inl x2), some (.inl x3)] [.inl y0] σ Q := by
  refine e_if (P := y0 = 0) q_113 rfl m_c0 (fun c => ?_) (fun c => ?_)
  · replace h := h.1 c
    refine e_load q_113 rfl rfl rfl ?_
    refine e_getR q_113 rfl rfl rfl ?_
    refine e_load q_113 rfl rfl rfl ?_
    exact e_virt q_113 rfl rfl (Nat.le_of_ble_eq_true rfl) rfl rfl (Nat.le_of_ble_eq_true rfl) rfl h
  · replace h := h.2 c
    refine e_load q_113 rfl rfl rfl ?_
    refine e_push q_113 rfl ?_
    exact e_virt q_113 rfl rfl (Nat.le_of_ble_eq_true rfl) rfl rfl (Nat.le_of_ble_eq_true rfl) rfl h
theorem g_113_28 {S : Nat × (Nat → Int32)} {d : Nat} {σ : Mem} {Q : MQ1} {o0 : Option MV} {o1 : Option MV} {o2 : Option MV} {o3 : Option MV} {y0 : Int32}  (h : Q [.inl y0] σ) : Ev S (d + 1) 113 28 [o0, o1, o2, o3] [.inl y0] σ Q := by
  exact e_ireturn q_113 rfl rfl h
theorem g_113_22 {S : Nat × (Nat → Int32)} {d : Nat} {σ : Mem} {Q : MQ1} {o0 : Option MV} {o1 : Option MV} {o2 : Option MV} {o3 : Option MV} {y0 : Int32}  (h : Q [.inl y0] σ) : Ev S (d + 1) 113 22 [o0, o1, o2, o3] [.inl y0] σ Q := by
  exact e_ireturn q_113 rfl rfl h
theorem q_114 : m_code 114 = mc_114 := rfl
theorem g_114_0 {S : Nat × (Nat → Int32)} {d : Nat} {σ : Mem} {Q : MQ1} {x1 : Int32} {x2 : Int32}  (h : Ec S d 47 [.inr (some 4)] σ (fun rv σ' => Ev S (d + 1) 114 3 [some (.inr (some 0)), some (.inl x1), some (.inl x2), none] (rv ++ []) σ' Q)) : Ev S (d + 1) 114 0 [some (.inr (some 0)), some (.inl x1), some (.inl x2), none] [] σ Q := by
  refine e_load q_114 rfl rfl rfl ?_
  refine e_getR q_114 rfl rfl rfl ?_
  exact e_virt q_114 rfl rfl (Nat.le_of_ble_eq_true rfl) rfl rfl (Nat.le_of_ble_eq_true rfl) rfl h
theorem g_114_3 {S : Nat × (Nat → Int32)} {d : Nat} {σ : Mem} {Q : MQ1} {x1 : Int32} {x2 : Int32} {o3 : Option MV} {y0 : Int32}  (h : ((y0 = 0 → Ec S d 53 [.inr (some 4)] σ (fun rv σ' => Ev S (d + 1) 114 11 [some (.inr (some 0)), some (.inl x1), some (.inl x2), o3] (rv ++ []) σ' Q)) ∧ (¬ (y0 = 0) → Ec S d 105 [.inr (some 0), .inl (-100008)] σ (fun rv σ' => Ev S (d + 1) 114 7 [some (.inr (some 0)), some (.inl x1), some (.inl x2), o3] (rv ++ []) σ' Q)))) : Ev S (d + 1) 114 3 [some (.inr (some 0)), some (.inl x1), some (.inl x2), o3] [.inl y0] σ Q := by
  refine e_if (P := y0 = 0) q_114 rfl m_c0 (fun c => ?_) (fun c => ?_)
  · replace h := h.1 c
    refine e_load q_114 rfl rfl rfl ?_
    refine e_getR q_114 rfl rfl rfl ?_
    exact e_virt q_114 rfl rfl (Nat.le_of_ble_eq_true rfl) rfl rfl (Nat.le_of_ble_eq_true rfl) rfl h
  · replace h := h.2 c
    refine e_load q_114 rfl rfl rfl ?_
    refine e_push q_114 rfl ?_
    exact e_virt q_114 rfl rfl (Nat.le_of_ble_eq_true rfl) rfl rfl (Nat.le_of_ble_eq_true rfl) rfl h
theorem g_114_11 {S : Nat × (Nat → Int32)} {d : Nat} {σ : Mem} {Q : MQ1} {x1 : Int32} {x2 : Int32} {o3 : Option MV}  (h : Ec S d 51 [.inr (some 4), .inl x1] σ (fun rv σ' => Ev S (d + 1) 114 15 [some (.inr (some 0)), some (.inl x1), some (.inl x2), o3] (rv ++ []) σ' Q)) : Ev S (d + 1) 114 11 [some (.inr (some 0)), some (.inl x1), some (.inl x2), o3] [] σ Q := by
  refine e_load q_114 rfl rfl rfl ?_
  refine e_getR q_114 rfl rfl rfl ?_
  refine e_load q_114 rfl rfl rfl ?_
  exact e_virt q_114 rfl rfl (Nat.le_of_ble_eq_true rfl) rfl rfl (Nat.le_of_ble_eq_true rfl) rfl h
theorem g_114_7 {S : Nat × (Nat → Int32)} {d : Nat} {σ : Mem} {Q : MQ1} {o0 : Option MV} {o1 : Option MV} {o2 : Option MV} {o3 : Option MV} {y0 : Int32}  (h : Q [.inl y0] σ) : Ev S (d + 1) 114 7 [o0, o1, o2, o3] [.inl y0] σ Q := by
  exact e_ireturn q_114 rfl rfl h
theorem g_114_15 {S : Nat × (Nat → Int32)} {d : Nat} {σ : Mem} {Q : MQ1} {x1 : Int32} {x2 : Int32} {o3 : Option MV}  (h : (((¬ x1 = 2) → Ec S d 48 [.inr (some 4)] σ (fun rv σ' => Ev S (d + 1) 114 25 [some (.inr (some 0)), some (.inl x1), some (.inl x2), o3] (rv ++ []) σ' Q)) ∧ (¬ (¬ x1 = 2) → Ec S d 48 [.inr (some 4)] σ (fun rv σ' => Ev S (d + 1) 114 21 [some (.inr (some 0)), some (.inl x1), some (.inl x2), o3] (rv ++ []) σ' Q)))) : Ev S (d + 1) 114 15 [some (.inr (some 0)), some (.inl x1), some (.inl x2), o3] [] σ Q := by
  refine e_load q_114 rfl rfl rfl ?_
  refine e_push q_114 rfl ?_
  refine e_icmp (P := ¬ x1 = 2) q_114 rfl m_c1 (fun c => ?_) (fun c => ?_)
  · replace h := h.1 c
    refine e_load q_114 rfl rfl rfl ?_
    refine e_getR q_114 rfl rfl rfl ?_
    exact e_virt q_114 rfl rfl (Nat.le_of_ble_eq_true rfl) rfl rfl (Nat.le_of_ble_eq_true rfl) rfl h
  · replace h := h.2 c
    refine e_load q_114 rfl rfl rfl ?_
    refine e_getR q_114 rfl rfl rfl ?_
    exact e_virt q_114 rfl rfl (Nat.le_of_ble_eq_true rfl) rfl rfl (Nat.le_of_ble_eq_true rfl) rfl h
theorem g_114_25 {S : Nat × (Nat → Int32)} {d : Nat} {σ : Mem} {Q : MQ1} {x1 : Int32} {x2 : Int32} {o3 : Option MV} {y0 : Int32}  (h : (((¬ y0 = 0) → (((¬ x1 = 0) → Ec S d 50 [.inr (some 4)] σ (fun rv σ' => Ev S (d + 1) 114 39 [some (.inr (some 0)), some (.inl x1), some (.inl x2), o3] (rv ++ []) σ' Q)) ∧ (¬ (¬ x1 = 0) → Ec S d 49 [.inr (some 4)] σ (fun rv σ' => Ev S (d + 1) 114 35 [some (.inr (some 0)), some (.inl x1), some (.inl x2), o3] (rv ++ []) σ' Q)))) ∧ (¬ (¬ y0 = 0) → Ec S d 105 [.inr (some 0), .inl (-100006)] σ (fun rv σ' => Ev S (d + 1) 114 29 [some (.inr (some 0)), some (.inl x1), some (.inl x2), o3] (rv ++ []) σ' Q)))) : Ev S (d + 1) 114 25 [some (.inr (some 0)), some (.inl x1), some (.inl x2), o3] [.inl y0] σ Q := by
  refine e_if (P := ¬ y0 = 0) q_114 rfl m_c1 (fun c => ?_) (fun c => ?_)
  · replace h := h.1 c
    refine e_load q_114 rfl rfl rfl ?_
    refine e_if (P := ¬ x1 = 0) q_114 rfl m_c1 (fun c => ?_) (fun c => ?_)
    · replace h := h.1 c
      refine e_load q_114 rfl rfl rfl ?_
      refine e_getR q_114 rfl rfl rfl ?_
      exact e_virt q_114 rfl rfl (Nat.le_of_ble_eq_true rfl) rfl rfl (Nat.le_of_ble_eq_true rfl) rfl h
    · replace h := h.2 c
      refine e_load q_114 rfl rfl rfl ?_
      refine e_getR q_114 rfl rfl rfl ?_
      exact e_virt q_114 rfl rfl (Nat.le_of_ble_eq_true rfl) rfl rfl (Nat.le_of_ble_eq_true rfl) rfl h
  · replace h := h.2 c
    refine e_load q_114 rfl rfl rfl ?_
    refine e_push q_114 rfl ?_
    exact e_virt q_114 rfl rfl (Nat.le_of_ble_eq_true rfl) rfl rfl (Nat.le_of_ble_eq_true rfl) rfl h
theorem g_114_21 {S : Nat × (Nat → Int32)} {d : Nat} {σ : Mem} {Q : MQ1} {o0 : Option MV} {o1 : Option MV} {o2 : Option MV} {o3 : Option MV} {y0 : Int32}  (h : Q [.inl y0] σ) : Ev S (d + 1) 114 21 [o0, o1, o2, o3] [.inl y0] σ Q := by
  exact e_ireturn q_114 rfl rfl h
theorem g_114_39 {S : Nat × (Nat → Int32)} {d : Nat} {σ : Mem} {Q : MQ1} {o1 : Option MV} {x2 : Int32} {o3 : Option MV} {y0 : Int32}  (h : ((x2 = 0 → Q [.inl y0] σ) ∧ (¬ (x2 = 0) → Ec S d 26 [.inr (some 24), .inr (some 1)] σ (fun rv σ' => Ev S (d + 1) 114 47 [some (.inr (some 0)), o1, some (.inl x2), some (.inl y0)] (rv ++ []) σ' Q)))) : Ev S (d + 1) 114 39 [some (.inr (some 0)), o1, some (.inl x2), o3] [.inl y0] σ Q := by
  refine e_store (ls' := [some (.inr (some 0)), o1, some (.inl x2), some (.inl y0)]) q_114 rfl (Nat.le_of_ble_eq_true rfl) rfl rfl ?_
  refine e_load q_114 rfl rfl rfl ?_
  refine e_if (P := x2 = 0) q_114 rfl m_c0 (fun c => ?_) (fun c => ?_)
  · replace h := h.1 c
    refine e_load q_114 rfl rfl rfl ?_
    exact e_ireturn q_114 rfl rfl h
  · replace h := h.2 c
    refine e_load q_114 rfl rfl rfl ?_
    refine e_getR q_114 rfl rfl rfl ?_
    refine e_load q_114 rfl rfl rfl ?_
    refine e_getR q_114 rfl rfl rfl ?_
    exact e_virt q_114 rfl rfl (Nat.le_of_ble_eq_true rfl) rfl rfl (Nat.le_of_ble_eq_true rfl) rfl h
theorem g_114_35 {S : Nat × (Nat → Int32)} {d : Nat} {σ : Mem} {Q : MQ1} {o1 : Option MV} {x2 : Int32} {o3 : Option MV} {y0 : Int32}  (h : ((x2 = 0 → Q [.inl y0] σ) ∧ (¬ (x2 = 0) → Ec S d 26 [.inr (some 24), .inr (some 1)] σ (fun rv σ' => Ev S (d + 1) 114 47 [some (.inr (some 0)), o1, some (.inl x2), some (.inl y0)] (rv ++ []) σ' Q)))) : Ev S (d + 1) 114 35 [some (.inr (some 0)), o1, some (.inl x2), o3] [.inl y0] σ Q := by
  refine e_goto q_114 rfl ?_
  refine e_store (ls' := [some (.inr (some 0)), o1, some (.inl x2), some (.inl y0)]) q_114 rfl (Nat.le_of_ble_eq_true rfl) rfl rfl ?_
  refine e_load q_114 rfl rfl rfl ?_
  refine e_if (P := x2 = 0) q_114 rfl m_c0 (fun c => ?_) (fun c => ?_)
  · replace h := h.1 c
    refine e_load q_114 rfl rfl rfl ?_
    exact e_ireturn q_114 rfl rfl h
  · replace h := h.2 c
    refine e_load q_114 rfl rfl rfl ?_
    refine e_getR q_114 rfl rfl rfl ?_
    refine e_load q_114 rfl rfl rfl ?_
    refine e_getR q_114 rfl rfl rfl ?_
    exact e_virt q_114 rfl rfl (Nat.le_of_ble_eq_true rfl) rfl rfl (Nat.le_of_ble_eq_true rfl) rfl h
theorem g_114_29 {S : Nat × (Nat → Int32)} {d : Nat} {σ : Mem} {Q : MQ1} {o0 : Option MV} {o1 : Option MV} {o2 : Option MV} {o3 : Option MV} {y0 : Int32}  (h : Q [.inl y0] σ) : Ev S (d + 1) 114 29 [o0, o1, o2, o3] [.inl y0] σ Q := by
  exact e_ireturn q_114 rfl rfl h
theorem g_114_47 {S : Nat × (Nat → Int32)} {d : Nat} {σ : Mem} {Q : MQ1} {o1 : Option MV} {o2 : Option MV} {x3 : Int32}  (h : Ec S d 52 [.inr (some 4)] σ (fun rv σ' => Ev S (d + 1) 114 50 [some (.inr (some 0)), o1, o2, some (.inl x3)] (rv ++ []) σ' Q)) : Ev S (d + 1) 114 47 [some (.inr (some 0)), o1, o2, some (.inl x3)] [] σ Q := by
  refine e_load q_114 rfl rfl rfl ?_
  refine e_getR q_114 rfl rfl rfl ?_
  exact e_virt q_114 rfl rfl (Nat.le_of_ble_eq_true rfl) rfl rfl (Nat.le_of_ble_eq_true rfl) rfl h
theorem g_114_50 {S : Nat × (Nat → Int32)} {d : Nat} {σ : Mem} {Q : MQ1} {o0 : Option MV} {o1 : Option MV} {o2 : Option MV} {x3 : Int32}  (h : Q [.inl x3] σ) : Ev S (d + 1) 114 50 [o0, o1, o2, some (.inl x3)] [] σ Q := by
  refine e_load q_114 rfl rfl rfl ?_
  exact e_ireturn q_114 rfl rfl h
theorem q_115 : m_code 115 = mc_115 := rfl
theorem g_115_0 {S : Nat × (Nat → Int32)} {d : Nat} {σ : Mem} {Q : MQ1} {x1 : Int32}  (h : Ev S (d + 1) 115 4 [some (.inr (some 0)), some (.inl x1), some (.inl 0), some (.inl 0)] [] σ Q) : Ev S (d + 1) 115 0 [some (.inr (some 0)), some (.inl x1), none, none] [] σ Q := by
  refine e_push q_115 rfl ?_
  refine e_store (ls' := [some (.inr (some 0)), some (.inl x1), some (.inl 0), none]) q_115 rfl (Nat.le_of_ble_eq_true rfl) rfl rfl ?_
  refine e_push q_115 rfl ?_
  refine e_store (ls' := [some (.inr (some 0)), some (.inl x1), some (.inl 0), some (.inl 0)]) q_115 rfl (Nat.le_of_ble_eq_true rfl) rfl rfl ?_
  exact h
theorem g_115_4 {S : Nat × (Nat → Int32)} {d : Nat} {σ : Mem} {Q : MQ1} {x1 : Int32} {x2 : Int32} {x3 : Int32}  (h : Ec S d 7 [.inr (some 1)] σ (fun rv σ' => Ev S (d + 1) 115 8 [some (.inr (some 0)), some (.inl x1), some (.inl x2), some (.inl x3)] (rv ++ [.inl x3]) σ' Q)) : Ev S (d + 1) 115 4 [some (.inr (some 0)), some (.inl x1), some (.inl x2), some (.inl x3)] [] σ Q := by
  refine e_load q_115 rfl rfl rfl ?_
  refine e_load q_115 rfl rfl rfl ?_
  refine e_getR q_115 rfl rfl rfl ?_
  exact e_virt q_115 rfl rfl (Nat.le_of_ble_eq_true rfl) rfl rfl (Nat.le_of_ble_eq_true rfl) rfl h
theorem g_115_8 {S : Nat × (Nat → Int32)} {d : Nat} {σ : Mem} {Q : MQ1} {x1 : Int32} {x2 : Int32} {x3 : Int32} {y0 : Int32} {y1 : Int32}  (h : ((y1 ≤ y0 → Q [.inl x2] σ) ∧ (¬ (y1 ≤ y0) → Ec S d 110 [.inl x1, .inl x3] σ (fun rv σ' => Ev S (d + 1) 115 12 [some (.inr (some 0)), some (.inl x1), some (.inl x2), some (.inl x3)] (rv ++ []) σ' Q)))) : Ev S (d + 1) 115 8 [some (.inr (some 0)), some (.inl x1), some (.inl x2), some (.inl x3)] [.inl y1, .inl y0] σ Q := by
  refine e_icmp (P := y1 ≤ y0) q_115 rfl m_c3 (fun c => ?_) (fun c => ?_)
  · replace h := h.1 c
    refine e_load q_115 rfl rfl rfl ?_
    exact e_ireturn q_115 rfl rfl h
  · replace h := h.2 c
    refine e_load q_115 rfl rfl rfl ?_
    refine e_load q_115 rfl rfl rfl ?_
    exact e_stat q_115 rfl (Nat.le_of_ble_eq_true rfl) rfl rfl (Nat.le_of_ble_eq_true rfl) h
theorem g_115_12 {S : Nat × (Nat → Int32)} {d : Nat} {σ : Mem} {Q : MQ1} {x1 : Int32} {x2 : Int32} {x3 : Int32} {y0 : Int32}  (h : ((y0 = 0 → Ev S (d + 1) 115 4 [some (.inr (some 0)), some (.inl x1), some (.inl x2), some (.inl (x3 + 1))] [] σ Q) ∧ (¬ (y0 = 0) → Ec S d 8 [.inr (some 1), .inl 1, .inl x3] σ (fun rv σ' => Ev S (d + 1) 115 19 [some (.inr (some 0)), some (.inl x1), some (.inl x2), some (.inl x3)] (rv ++ [.inl x2]) σ' Q)))) : Ev S (d + 1) 115 12 [some (.inr (some 0)), some (.inl x1), some (.inl x2), some (.inl x3)] [.inl y0] σ Q := by
  refine e_if (P := y0 = 0) q_115 rfl m_c0 (fun c => ?_) (fun c => ?_)
  · replace h := h.1 c
    refine e_iinc (ls' := [some (.inr (some 0)), some (.inl x1), some (.inl x2), some (.inl (x3 + 1))]) q_115 rfl rfl rfl ?_
    refine e_goto q_115 rfl ?_
    exact h
  · replace h := h.2 c
    refine e_load q_115 rfl rfl rfl ?_
    refine e_load q_115 rfl rfl rfl ?_
    refine e_getR q_115 rfl rfl rfl ?_
    refine e_push q_115 rfl ?_
    refine e_load q_115 rfl rfl rfl ?_
    exact e_virt q_115 rfl rfl (Nat.le_of_ble_eq_true rfl) rfl rfl (Nat.le_of_ble_eq_true rfl) rfl h
theorem g_115_19 {S : Nat × (Nat → Int32)} {d : Nat} {σ : Mem} {Q : MQ1} {x1 : Int32} {o2 : Option MV} {x3 : Int32} {y0 : Int32} {y1 : Int32}  (h : Ev S (d + 1) 115 4 [some (.inr (some 0)), some (.inl x1), some (.inl (y0 + y1)), some (.inl (x3 + 1))] [] σ Q) : Ev S (d + 1) 115 19 [some (.inr (some 0)), some (.inl x1), o2, some (.inl x3)] [.inl y1, .inl y0] σ Q := by
  refine e_bin (r := y0 + y1) q_115 rfl rfl ?_
  refine e_store (ls' := [some (.inr (some 0)), some (.inl x1), some (.inl (y0 + y1)), some (.inl x3)]) q_115 rfl (Nat.le_of_ble_eq_true rfl) rfl rfl ?_
  refine e_iinc (ls' := [some (.inr (some 0)), some (.inl x1), some (.inl (y0 + y1)), some (.inl (x3 + 1))]) q_115 rfl rfl rfl ?_
  refine e_goto q_115 rfl ?_
  exact h
theorem q_116 : m_code 116 = mc_116 := rfl
theorem g_116_0 {S : Nat × (Nat → Int32)} {d : Nat} {σ : Mem} {Q : MQ1} {x1 : Int32} {x2 : Int32}  (h : Ec S d 12 [.inr (some 1), .inl x1] σ (fun rv σ' => Ev S (d + 1) 116 4 [some (.inr (some 0)), some (.inl x1), some (.inl x2), none, none, none] (rv ++ []) σ' Q)) : Ev S (d + 1) 116 0 [some (.inr (some 0)), some (.inl x1), some (.inl x2), none, none, none] [] σ Q := by
  refine e_load q_116 rfl rfl rfl ?_
  refine e_getR q_116 rfl rfl rfl ?_
  refine e_load q_116 rfl rfl rfl ?_
  exact e_virt q_116 rfl rfl (Nat.le_of_ble_eq_true rfl) rfl rfl (Nat.le_of_ble_eq_true rfl) rfl h
theorem g_116_4 {S : Nat × (Nat → Int32)} {d : Nat} {σ : Mem} {Q : MQ1} {x1 : Int32} {x2 : Int32} {o3 : Option MV} {o4 : Option MV} {o5 : Option MV} {y0 : Int32}  (h : ((y0 = 0 → Ec S d 8 [.inr (some 1), .inl 5, .inl x1] σ (fun rv σ' => Ev S (d + 1) 116 15 [some (.inr (some 0)), some (.inl x1), some (.inl x2), o3, o4, o5] (rv ++ []) σ' Q)) ∧ (¬ (y0 = 0) → Ec S d 21 [.inr (some 1), .inl x2] σ (fun rv σ' => Ev S (d + 1) 116 9 [some (.inr (some 0)), some (.inl x1), some (.inl x2), o3, o4, o5] (rv ++ []) σ' Q)))) : Ev S (d + 1) 116 4 [some (.inr (some 0)), some (.inl x1), some (.inl x2), o3, o4, o5] [.inl y0] σ Q := by
  refine e_if (P := y0 = 0) q_116 rfl m_c0 (fun c => ?_) (fun c => ?_)
  · replace h := h.1 c
    refine e_load q_116 rfl rfl rfl ?_
    refine e_getR q_116 rfl rfl rfl ?_
    refine e_push q_116 rfl ?_
    refine e_load q_116 rfl rfl rfl ?_
    exact e_virt q_116 rfl rfl (Nat.le_of_ble_eq_true rfl) rfl rfl (Nat.le_of_ble_eq_true rfl) rfl h
  · replace h := h.2 c
    refine e_load q_116 rfl rfl rfl ?_
    refine e_getR q_116 rfl rfl rfl ?_
    refine e_load q_116 rfl rfl rfl ?_
    exact e_virt q_116 rfl rfl (Nat.le_of_ble_eq_true rfl) rfl rfl (Nat.le_of_ble_eq_true rfl) rfl h
theorem g_116_15 {S : Nat × (Nat → Int32)} {d : Nat} {σ : Mem} {Q : MQ1} {x1 : Int32} {x2 : Int32} {o3 : Option MV} {o4 : Option MV} {o5 : Option MV} {y0 : Int32}  (h : Ec S d 8 [.inr (some 1), .inl 6, .inl x1] σ (fun rv σ' => Ev S (d + 1) 116 21 [some (.inr (some 0)), some (.inl x1), some (.inl x2), some (.inl y0), o4, o5] (rv ++ []) σ' Q)) : Ev S (d + 1) 116 15 [some (.inr (some 0)), some (.inl x1), some (.inl x2), o3, o4, o5] [.inl y0] σ Q := by
  refine e_store (ls' := [some (.inr (some 0)), some (.inl x1), some (.inl x2), some (.inl y0), o4, o5]) q_116 rfl (Nat.le_of_ble_eq_true rfl) rfl rfl ?_
  refine e_load q_116 rfl rfl rfl ?_
  refine e_getR q_116 rfl rfl rfl ?_
  refine e_push q_116 rfl ?_
  refine e_load q_116 rfl rfl rfl ?_
  exact e_virt q_116 rfl rfl (Nat.le_of_ble_eq_true rfl) rfl rfl (Nat.le_of_ble_eq_true rfl) rfl h
theorem g_116_9 {S : Nat × (Nat → Int32)} {d : Nat} {σ : Mem} {Q : MQ1} {o0 : Option MV} {o1 : Option MV} {o2 : Option MV} {o3 : Option MV} {o4 : Option MV} {o5 : Option MV} {y0 : Int32}  (h : Q [.inl y0] σ) : Ev S (d + 1) 116 9 [o0, o1, o2, o3, o4, o5] [.inl y0] σ Q := by
  exact e_ireturn q_116 rfl rfl h
theorem g_116_21 {S : Nat × (Nat → Int32)} {d : Nat} {σ : Mem} {Q : MQ1} {x1 : Int32} {x2 : Int32} {x3 : Int32} {o4 : Option MV} {o5 : Option MV} {y0 : Int32}  (h : ((x3 = (-1) → ((y0 = (-1) → Q [.inl 0] σ) ∧ (¬ (y0 = (-1)) → ((x2 < y0 → Q [.inl 0] σ) ∧ (¬ (x2 < y0) → Q [.inl (0 + 1)] σ))))) ∧ (¬ (x3 = (-1)) → ((x2 < x3 → ((y0 = (-1) → Q [.inl 0] σ) ∧ (¬ (y0 = (-1)) → ((x2 < y0 → Q [.inl 0] σ) ∧ (¬ (x2 < y0) → Q [.inl (0 + 1)] σ))))) ∧ (¬ (x2 < x3) → Ec S d 8 [.inr (some 1), .inl 1, .inl x1] σ (fun rv σ' => Ev S (d + 1) 116 33 [some (.inr (some 0)), some (.inl x1), some (.inl x2), some (.inl x3), some (.inl y0), o5] (rv ++ []) σ' Q)))))) : Ev S (d + 1) 116 21 [some (.inr (some 0)), some (.inl x1), some (.inl x2), some (.inl x3), o4, o5] [.inl y0] σ Q := by
  refine e_store (ls' := [some (.inr (some 0)), some (.inl x1), some (.inl x2), some (.inl x3), some (.inl y0), o5]) q_116 rfl (Nat.le_of_ble_eq_true rfl) rfl rfl ?_
  refine e_load q_116 rfl rfl rfl ?_
  refine e_push q_116 rfl ?_
  refine e_icmp (P := x3 = (-1)) q_116 rfl m_c0 (fun c => ?_) (fun c => ?_)
  · replace h := h.1 c
    refine e_push q_116 rfl ?_
    refine e_store (ls' := [some (.inr (some 0)), some (.inl x1), some (.inl x2), some (.inl x3), some (.inl y0), some (.inl 0)]) q_116 rfl (Nat.le_of_ble_eq_true rfl) rfl rfl ?_
    refine e_load q_116 rfl rfl rfl ?_
    refine e_push q_116 rfl ?_
    refine e_icmp (P := y0 = (-1)) q_116 rfl m_c0 (fun c => ?_) (fun c => ?_)
    · replace h := h.1 c
      refine e_load q_116 rfl rfl rfl ?_
      exact e_ireturn q_116 rfl rfl h
    · replace h := h.2 c
      refine e_load q_116 rfl rfl rfl ?_
      refine e_load q_116 rfl rfl rfl ?_
      refine e_icmp (P := x2 < y0) q_116 rfl m_c4 (fun c => ?_) (fun c => ?_)
      · replace h := h.1 c
        refine e_load q_116 rfl rfl rfl ?_
        exact e_ireturn q_116 rfl rfl h
      · replace h := h.2 c
        refine e_load q_116 rfl rfl rfl ?_
        refine e_push q_116 rfl ?_
        refine e_bin (r := 0 + 1) q_116 rfl rfl ?_
        refine e_goto q_116 rfl ?_
        exact e_ireturn q_116 rfl rfl h
  · replace h := h.2 c
    refine e_load q_116 rfl rfl rfl ?_
    refine e_load q_116 rfl rfl rfl ?_
    refine e_icmp (P := x2 < x3) q_116 rfl m_c4 (fun c => ?_) (fun c => ?_)
    · replace h := h.1 c
      refine e_push q_116 rfl ?_
      refine e_store (ls' := [some (.inr (some 0)), some (.inl x1), some (.inl x2), some (.inl x3), some (.inl y0), some (.inl 0)]) q_116 rfl (Nat.le_of_ble_eq_true rfl) rfl rfl ?_
      refine e_load q_116 rfl rfl rfl ?_
      refine e_push q_116 rfl ?_
      refine e_icmp (P := y0 = (-1)) q_116 rfl m_c0 (fun c => ?_) (fun c => ?_)
      · replace h := h.1 c
        refine e_load q_116 rfl rfl rfl ?_
        exact e_ireturn q_116 rfl rfl h
      · replace h := h.2 c
        refine e_load q_116 rfl rfl rfl ?_
        refine e_load q_116 rfl rfl rfl ?_
        refine e_icmp (P := x2 < y0) q_116 rfl m_c4 (fun c => ?_) (fun c => ?_)
        · replace h := h.1 c
          refine e_load q_116 rfl rfl rfl ?_
          exact e_ireturn q_116 rfl rfl h
        · replace h := h.2 c
          refine e_load q_116 rfl rfl rfl ?_
          refine e_push q_116 rfl ?_
          refine e_bin (r := 0 + 1) q_116 rfl rfl ?_
          refine e_goto q_116 rfl ?_
          exact e_ireturn q_116 rfl rfl h
    · replace h := h.2 c
      refine e_load q_116 rfl rfl rfl ?_
      refine e_getR q_116 rfl rfl rfl ?_
      refine e_push q_116 rfl ?_
      refine e_load q_116 rfl rfl rfl ?_
      exact e_virt q_116 rfl rfl (Nat.le_of_ble_eq_true rfl) rfl rfl (Nat.le_of_ble_eq_true rfl) rfl h
theorem g_116_33 {S : Nat × (Nat → Int32)} {d : Nat} {σ : Mem} {Q : MQ1} {o0 : Option MV} {o1 : Option MV} {x2 : Int32} {o3 : Option MV} {x4 : Int32} {o5 : Option MV} {y0 : Int32}  (h : ((x4 = (-1) → Q [.inl y0] σ) ∧ (¬ (x4 = (-1)) → ((x2 < x4 → Q [.inl y0] σ) ∧ (¬ (x2 < x4) → Q [.inl (y0 + 1)] σ))))) : Ev S (d + 1) 116 33 [o0, o1, some (.inl x2), o3, some (.inl x4), o5] [.inl y0] σ Q := by
  refine e_goto q_116 rfl ?_
  refine e_store (ls' := [o0, o1, some (.inl x2), o3, some (.inl x4), some (.inl y0)]) q_116 rfl (Nat.le_of_ble_eq_true rfl) rfl rfl ?_
  refine e_load q_116 rfl rfl rfl ?_
  refine e_push q_116 rfl ?_
  refine e_icmp (P := x4 = (-1)) q_116 rfl m_c0 (fun c => ?_) (fun c => ?_)
  · replace h := h.1 c
    refine e_load q_116 rfl rfl rfl ?_
    exact e_ireturn q_116 rfl rfl h
  · replace h := h.2 c
    refine e_load q_116 rfl rfl rfl ?_
    refine e_load q_116 rfl rfl rfl ?_
    refine e_icmp (P := x2 < x4) q_116 rfl m_c4 (fun c => ?_) (fun c => ?_)
    · replace h := h.1 c
      refine e_load q_116 rfl rfl rfl ?_
      exact e_ireturn q_116 rfl rfl h
    · replace h := h.2 c
      refine e_load q_116 rfl rfl rfl ?_
      refine e_push q_116 rfl ?_
      refine e_bin (r := y0 + 1) q_116 rfl rfl ?_
      refine e_goto q_116 rfl ?_
      exact e_ireturn q_116 rfl rfl h
