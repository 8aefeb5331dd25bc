theorem q_0 : m_code 0 = mc_0 := rfl
set_option maxHeartbeats 4000000 in
set_option maxRecDepth 20000 in
theorem g_0_10 {S : Nat × (Nat → Int32)} {d : Nat} {σ : Mem} {Q : MQ1} {x3 : Int32} (hS : S.1 < 10000) (h : ((((Int32.ofNat S.1) - 6) < x3 → Q [.inl 1] σ) ∧ (¬ (((Int32.ofNat S.1) - 6) < x3) → (∃ j1 : Nat, x3 = nI j1 ∧ j1 < S.1 ∧ ((((S.2 j1) &&& 31) = 0 → (∃ j2 : Nat, x3 + 1 = nI j2 ∧ j2 < S.1 ∧ (∃ j3 : Nat, x3 + 2 = nI j3 ∧ j3 < S.1 ∧ Ec S (d + 7) 75 [.inr (some 0), .inl (S.2 j2), .inl (S.2 j3)] σ (fun rv σ' => Ev S (d + 8) 0 34 [some (.inr (some m_scr)), some (.inr (some 0)), some (.inr (some 60)), some (.inl x3)] (rv ++ []) σ' Q)))) ∧ (((S.2 j1) &&& 31) = 1 → (∃ j4 : Nat, x3 + 1 = nI j4 ∧ j4 < S.1 ∧ (∃ j5 : Nat, x3 + 2 = nI j5 ∧ j5 < S.1 ∧ Ec S (d + 7) 76 [.inr (some 0), .inl (S.2 j4), .inl (S.2 j5)] σ (fun rv σ' => Ev S (d + 8) 0 61 [some (.inr (some m_scr)), some (.inr (some 0)), some (.inr (some 60)), some (.inl x3)] (rv ++ []) σ' Q)))) ∧ (((S.2 j1) &&& 31) = 2 → (∃ j6 : Nat, x3 + 1 = nI j6 ∧ j6 < S.1 ∧ (∃ j7 : Nat, x3 + 2 = nI j7 ∧ j7 < S.1 ∧ (∃ j8 : Nat, x3 + 3 = nI j8 ∧ j8 < S.1 ∧ (((S.2 j8) = 0 → Ec S (d + 7) 77 [.inr (some 0), .inl (S.2 j6), .inl (S.2 j7), .inl 0] σ (fun rv σ' => Ev S (d + 8) 0 97 [some (.inr (some m_scr)), some (.inr (some 0)), some (.inr (some 60)), some (.inl x3)] (rv ++ []) σ' Q)) ∧ (¬ ((S.2 j8) = 0) → Ec S (d + 7) 77 [.inr (some 0), .inl (S.2 j6), .inl (S.2 j7), .inl 1] σ (fun rv σ' => Ev S (d + 8) 0 97 [some (.inr (some m_scr)), some (.inr (some 0)), some (.inr (some 60)), some (.inl x3)] (rv ++ []) σ' Q))))))) ∧ (((S.2 j1) &&& 31) = 3 → (∃ j9 : Nat, x3 + 1 = nI j9 ∧ j9 < S.1 ∧ (∃ j10 : Nat, x3 + 2 = nI j10 ∧ j10 < S.1 ∧ Ec S (d + 7) 78 [.inr (some 0), .inl (S.2 j9), .inl (S.2 j10)] σ (fun rv σ' => Ev S (d + 8) 0 133 [some (.inr (some m_scr)), some (.inr (some 0)), some (.inr (some 60)), some (.inl x3)] (rv ++ []) σ' Q)))) ∧ (((S.2 j1) &&& 31) = 4 → (∃ j11 : Nat, x3 + 1 = nI j11 ∧ j11 < S.1 ∧ (∃ j12 : Nat, x3 + 2 = nI j12 ∧ j12 < S.1 ∧ Ec S (d + 7) 79 [.inr (some 0), .inl (S.2 j11), .inl (S.2 j12)] σ (fun rv σ' => Ev S (d + 8) 0 160 [some (.inr (some m_scr)), some (.inr (some 0)), some (.inr (some 60)), some (.inl x3)] (rv ++ []) σ' Q)))) ∧ (((S.2 j1) &&& 31) = 5 → (∃ j13 : Nat, x3 + 1 = nI j13 ∧ j13 < S.1 ∧ (∃ j14 : Nat, x3 + 2 = nI j14 ∧ j14 < S.1 ∧ Ec S (d + 7) 80 [.inr (some 0), .inl (S.2 j13), .inl (S.2 j14)] σ (fun rv σ' => Ev S (d + 8) 0 187 [some (.inr (some m_scr)), some (.inr (some 0)), some (.inr (some 60)), some (.inl x3)] (rv ++ []) σ' Q)))) ∧ (((S.2 j1) &&& 31) = 6 → (∃ j15 : Nat, x3 + 1 = nI j15 ∧ j15 < S.1 ∧ (∃ j16 : Nat, x3 + 2 = nI j16 ∧ j16 < S.1 ∧ Ec S (d + 7) 81 [.inr (some 0), .inl (S.2 j15), .inl (S.2 j16)] σ (fun rv σ' => Ev S (d + 8) 0 214 [some (.inr (some m_scr)), some (.inr (some 0)), some (.inr (some 60)), some (.inl x3)] (rv ++ []) σ' Q)))) ∧ (((S.2 j1) &&& 31) = 7 → (∃ j17 : Nat, x3 + 1 = nI j17 ∧ j17 < S.1 ∧ (∃ j18 : Nat, x3 + 2 = nI j18 ∧ j18 < S.1 ∧ Ec S (d + 7) 82 [.inr (some 0), .inl (S.2 j17), .inl (S.2 j18)] σ (fun rv σ' => Ev S (d + 8) 0 241 [some (.inr (some m_scr)), some (.inr (some 0)), some (.inr (some 60)), some (.inl x3)] (rv ++ []) σ' Q)))) ∧ (((S.2 j1) &&& 31) = 8 → (∃ j19 : Nat, x3 + 1 = nI j19 ∧ j19 < S.1 ∧ (∃ j20 : Nat, x3 + 2 = nI j20 ∧ j20 < S.1 ∧ (((S.2 j20) = 0 → Ec S (d + 7) 83 [.inr (some 0), .inl (S.2 j19), .inl 0] σ (fun rv σ' => Ev S (d + 8) 0 272 [some (.inr (some m_scr)), some (.inr (some 0)), some (.inr (some 60)), some (.inl x3)] (rv ++ []) σ' Q)) ∧ (¬ ((S.2 j20) = 0) → Ec S (d + 7) 83 [.inr (some 0), .inl (S.2 j19), .inl 1] σ (fun rv σ' => Ev S (d + 8) 0 272 [some (.inr (some m_scr)), some (.inr (some 0)), some (.inr (some 60)), some (.inl x3)] (rv ++ []) σ' Q)))))) ∧ (((S.2 j1) &&& 31) = 9 → (∃ j21 : Nat, x3 + 1 = nI j21 ∧ j21 < S.1 ∧ Ec S (d + 7) 84 [.inr (some 0), .inl (S.2 j21)] σ (fun rv σ' => Ev S (d + 8) 0 298 [some (.inr (some m_scr)), some (.inr (some 0)), some (.inr (some 60)), some (.inl x3)] (rv ++ []) σ' Q))) ∧ (((S.2 j1) &&& 31) = 10 → (∃ j22 : Nat, x3 + 1 = nI j22 ∧ j22 < S.1 ∧ (∃ j23 : Nat, x3 + 2 = nI j23 ∧ j23 < S.1 ∧ (∃ j24 : Nat, x3 + 3 = nI j24 ∧ j24 < S.1 ∧ Ec S (d + 7) 85 [.inr (some 0), .inl (S.2 j22), .inl (S.2 j23), .inl (S.2 j24)] σ (fun rv σ' => Ev S (d + 8) 0 325 [some (.inr (some m_scr)), some (.inr (some 0)), some (.inr (some 60)), some (.inl x3)] (rv ++ []) σ' Q))))) ∧ (((S.2 j1) &&& 31) = 11 → (∃ j25 : Nat, x3 + 1 = nI j25 ∧ j25 < S.1 ∧ (∃ j26 : Nat, x3 + 2 = nI j26 ∧ j26 < S.1 ∧ (∃ j27 : Nat, x3 + 3 = nI j27 ∧ j27 < S.1 ∧ Ec S (d + 7) 86 [.inr (some 0), .inl (S.2 j25), .inl (S.2 j26), .inl (S.2 j27)] σ (fun rv σ' => Ev S (d + 8) 0 362 [some (.inr (some m_scr)), some (.inr (some 0)), some (.inr (some 60)), some (.inl x3)] (rv ++ []) σ' Q))))) ∧ (((S.2 j1) &&& 31) = 12 → (∃ j28 : Nat, x3 + 1 = nI j28 ∧ j28 < S.1 ∧ (∃ j29 : Nat, x3 + 2 = nI j29 ∧ j29 < S.1 ∧ (∃ j30 : Nat, x3 + 3 = nI j30 ∧ j30 < S.1 ∧ (∃ j31 : Nat, x3 + 4 = nI j31 ∧ j31 < S.1 ∧ (∃ j32 : Nat, x3 + 5 = nI j32 ∧ j32 < S.1 ∧ Ec S (d + 7) 87 [.inr (some 0), .inl (S.2 j28), .inl (S.2 j29), .inl (S.2 j30), .inl (S.2 j31), .inl (S.2 j32)] σ (fun rv σ' => Ev S (d + 8) 0 409 [some (.inr (some m_scr)), some (.inr (some 0)), some (.inr (some 60)), some (.inl x3)] (rv ++ []) σ' Q))))))) ∧ (((S.2 j1) &&& 31) = 13 → (∃ j33 : Nat, x3 + 1 = nI j33 ∧ j33 < S.1 ∧ Ec S (d + 7) 88 [.inr (some 0), .inl (S.2 j33)] σ (fun rv σ' => Ev S (d + 8) 0 446 [some (.inr (some m_scr)), some (.inr (some 0)), some (.inr (some 60)), some (.inl x3)] (rv ++ []) σ' Q))) ∧ (((S.2 j1) &&& 31) = 14 → (∃ j34 : Nat, x3 + 1 = nI j34 ∧ j34 < S.1 ∧ (∃ j35 : Nat, x3 + 2 = nI j35 ∧ j35 < S.1 ∧ Ec S (d + 7) 89 [.inr (some 0), .inl (S.2 j34), .inl (S.2 j35)] σ (fun rv σ' => Ev S (d + 8) 0 468 [some (.inr (some m_scr)), some (.inr (some 0)), some (.inr (some 60)), some (.inl x3)] (rv ++ []) σ' Q)))) ∧ (((S.2 j1) &&& 31) = 15 → (∃ j36 : Nat, x3 + 1 = nI j36 ∧ j36 < S.1 ∧ (∃ j37 : Nat, x3 + 2 = nI j37 ∧ j37 < S.1 ∧ Ec S (d + 7) 90 [.inr (some 0), .inl (S.2 j36), .inl (S.2 j37)] σ (fun rv σ' => Ev S (d + 8) 0 495 [some (.inr (some m_scr)), some (.inr (some 0)), some (.inr (some 60)), some (.inl x3)] (rv ++ []) σ' Q)))) ∧ (((S.2 j1) &&& 31) = 16 → Ec S (d + 7) 91 [.inr (some 0)] σ (fun rv σ' => Ev S (d + 8) 0 512 [some (.inr (some m_scr)), some (.inr (some 0)), some (.inr (some 60)), some (.inl x3)] (rv ++ []) σ' Q)) ∧ (((S.2 j1) &&& 31) = 17 → (∃ j38 : Nat, x3 + 1 = nI j38 ∧ j38 < S.1 ∧ Ec S (d + 7) 92 [.inr (some 0), .inl (S.2 j38)] σ (fun rv σ' => Ev S (d + 8) 0 524 [some (.inr (some m_scr)), some (.inr (some 0)), some (.inr (some 60)), some (.inl x3)] (rv ++ []) σ' Q))) ∧ (((S.2 j1) &&& 31) = 18 → Ec S (d + 7) 93 [.inr (some 0)] σ (fun rv σ' => Ev S (d + 8) 0 536 [some (.inr (some m_scr)), some (.inr (some 0)), some (.inr (some 60)), some (.inl x3)] (rv ++ []) σ' Q)) ∧ (((S.2 j1) &&& 31) = 19 → (∃ j39 : Nat, x3 + 1 = nI j39 ∧ j39 < S.1 ∧ (((S.2 j39) = 0 → Ec S (d + 7) 94 [.inr (some 0), .inl 0] σ (fun rv σ' => Ev S (d + 8) 0 552 [some (.inr (some m_scr)), some (.inr (some 0)), some (.inr (some 60)), some (.inl x3)] (rv ++ []) σ' Q)) ∧ (¬ ((S.2 j39) = 0) → Ec S (d + 7) 94 [.inr (some 0), .inl 1] σ (fun rv σ' => Ev S (d + 8) 0 552 [some (.inr (some m_scr)), some (.inr (some 0)), some (.inr (some 60)), some (.inl x3)] (rv ++ []) σ' Q))))) ∧ (((S.2 j1) &&& 31) = 20 → Ec S (d + 7) 95 [.inr (some 0)] σ (fun rv σ' => Ev S (d + 8) 0 568 [some (.inr (some m_scr)), some (.inr (some 0)), some (.inr (some 60)), some (.inl x3)] (rv ++ []) σ' Q)) ∧ (((S.2 j1) &&& 31) = 21 → (∃ j40 : Nat, x3 + 1 = nI j40 ∧ j40 < S.1 ∧ (((S.2 j40) = 0 → Ec S (d + 7) 96 [.inr (some 0), .inl 0] σ (fun rv σ' => Ev S (d + 8) 0 584 [some (.inr (some m_scr)), some (.inr (some 0)), some (.inr (some 60)), some (.inl x3)] (rv ++ []) σ' Q)) ∧ (¬ ((S.2 j40) = 0) → Ec S (d + 7) 96 [.inr (some 0), .inl 1] σ (fun rv σ' => Ev S (d + 8) 0 584 [some (.inr (some m_scr)), some (.inr (some 0)), some (.inr (some 60)), some (.inl x3)] (rv ++ []) σ' Q))))) ∧ (((S.2 j1) &&& 31) = 22 → (∃ j41 : Nat, x3 + 1 = nI j41 ∧ j41 < S.1 ∧ (∃ j42 : Nat, x3 + 2 = nI j42 ∧ j42 < S.1 ∧ (((S.2 j42) = 0 → Ec S (d + 7) 97 [.inr (some 0), .inl (S.2 j41), .inl 0] σ (fun rv σ' => Ev S (d + 8) 0 614 [some (.inr (some m_scr)), some (.inr (some 0)), some (.inr (some 60)), some (.inl x3)] (rv ++ []) σ' Q)) ∧ (¬ ((S.2 j42) = 0) → Ec S (d + 7) 97 [.inr (some 0), .inl (S.2 j41), .inl 1] σ (fun rv σ' => Ev S (d + 8) 0 614 [some (.inr (some m_scr)), some (.inr (some 0)), some (.inr (some 60)), some (.inl x3)] (rv ++ []) σ' Q)))))) ∧ (((S.2 j1) &&& 31) = 23 → (∃ j43 : Nat, x3 + 1 = nI j43 ∧ j43 < S.1 ∧ (((S.2 j43) = 0 → Ec S (d + 7) 98 [.inr (some 0), .inl 0] σ (fun rv σ' => Ev S (d + 8) 0 644 [some (.inr (some m_scr)), some (.inr (some 0)), some (.inr (some 60)), some (.inl x3)] (rv ++ []) σ' Q)) ∧ (¬ ((S.2 j43) = 0) → Ec S (d + 7) 98 [.inr (some 0), .inl 1] σ (fun rv σ' => Ev S (d + 8) 0 644 [some (.inr (some m_scr)), some (.inr (some 0)), some (.inr (some 60)), some (.inl x3)] (rv ++ []) σ' Q))))) ∧ (((S.2 j1) &&& 31) = 24 → (∃ j44 : Nat, x3 + 1 = nI j44 ∧ j44 < S.1 ∧ Ec S (d + 7) 99 [.inr (some 0), .inl (S.2 j44)] σ (fun rv σ' => Ev S (d + 8) 0 665 [some (.inr (some m_scr)), some (.inr (some 0)), some (.inr (some 60)), some (.inl x3)] (rv ++ []) σ' Q))) ∧ (((S.2 j1) &&& 31) = 25 → (∃ j45 : Nat, x3 + 1 = nI j45 ∧ j45 < S.1 ∧ (∃ j46 : Nat, x3 + 2 = nI j46 ∧ j46 < S.1 ∧ Ec S (d + 7) 100 [.inr (some 0), .inl (S.2 j45), .inl (S.2 j46)] σ (fun rv σ' => Ev S (d + 8) 0 687 [some (.inr (some m_scr)), some (.inr (some 0)), some (.inr (some 60)), some (.inl x3)] (rv ++ []) σ' Q)))) ∧ (((S.2 j1) &&& 31) = 26 → (∃ j47 : Nat, x3 + 1 = nI j47 ∧ j47 < S.1 ∧ (∃ j48 : Nat, x3 + 2 = nI j48 ∧ j48 < S.1 ∧ Ec S (d + 7) 101 [.inr (some 0), .inl (S.2 j47), .inl (S.2 j48)] σ (fun rv σ' => Ev S (d + 8) 0 714 [some (.inr (some m_scr)), some (.inr (some 0)), some (.inr (some 60)), some (.inl x3)] (rv ++ []) σ' Q)))) ∧ (((S.2 j1) &&& 31) = 27 → (∃ j49 : Nat, x3 + 1 = nI j49 ∧ j49 < S.1 ∧ Ec S (d + 7) 102 [.inr (some 0), .inl (S.2 j49)] σ (fun rv σ' => Ev S (d + 8) 0 736 [some (.inr (some m_scr)), some (.inr (some 0)), some (.inr (some 60)), some (.inl x3)] (rv ++ []) σ' Q))) ∧ (((S.2 j1) &&& 31) = 28 → Ec S (d + 7) 103 [.inr (some 0)] σ (fun rv σ' => Ev S (d + 8) 0 748 [some (.inr (some m_scr)), some (.inr (some 0)), some (.inr (some 60)), some (.inl x3)] (rv ++ []) σ' Q)) ∧ (((S.2 j1) &&& 31) = 29 → (∃ j50 : Nat, x3 + 1 = nI j50 ∧ j50 < S.1 ∧ Ec S (d + 7) 104 [.inr (some 0), .inl (S.2 j50)] σ (fun rv σ' => Ev S (d + 8) 0 760 [some (.inr (some m_scr)), some (.inr (some 0)), some (.inr (some 60)), some (.inl x3)] (rv ++ []) σ' Q))) ∧ ((∀ j : Nat, j < 30 → ¬ ((S.2 j1) &&& 31) = 0 + nI j) → Ev S (d + 8) 0 10 [some (.inr (some m_scr)), some (.inr (some 0)), some (.inr (some 60)), some (.inl (x3 + 6))] [] σ Q)))))) : Ev S (d + 8) 0 10 [some (.inr (some m_scr)), some (.inr (some 0)), some (.inr (some 60)), some (.inl x3)] [] σ Q := by
  refine e_load q_0 rfl rfl rfl ?_
  refine e_load q_0 rfl rfl rfl ?_
  refine e_slen q_0 rfl ?_
  refine e_push q_0 rfl ?_
  refine e_bin (r := (Int32.ofNat S.1) - 6) q_0 rfl rfl ?_
  refine e_icmp (P := ((Int32.ofNat S.1) - 6) < x3) q_0 rfl m_c4 (fun c => ?_) (fun c => ?_)
  · replace h := h.1 c
    refine e_push q_0 rfl ?_
    exact e_zreturn q_0 rfl rfl (by decide) h
  · replace h := h.2 c
    refine e_load q_0 rfl rfl rfl ?_
    refine e_load q_0 rfl rfl rfl ?_
    obtain ⟨j1, hjj1, hlj1, h⟩ := h
    refine e_scr q_0 rfl hjj1 hlj1 hS ?_
    refine e_push q_0 rfl ?_
    refine e_bin (r := (S.2 j1) &&& 31) q_0 rfl rfl ?_
    refine e_switch q_0 rfl ?_
    rcases m_sw (x := (S.2 j1) &&& 31) (t := 770) (lo := 0) (ts := [22, 49, 76, 121, 148, 175, 202, 229, 256, 291, 308, 345, 382, 439, 456, 483, 510, 517, 534, 541, 566, 573, 598, 633, 658, 675, 702, 729, 746, 753]) (by decide) (by decide) (by decide) with ⟨j, hj, hl, hx⟩ | ⟨hx, hn⟩
    · match j, hj, hl, hx with
      | 0, hj, hl, hx =>
        rw [show m_swt 770 0 [22, 49, 76, 121, 148, 175, 202, 229, 256, 291, 308, 345, 382, 439, 456, 483, 510, 517, 534, 541, 566, 573, 598, 633, 658, 675, 702, 729, 746, 753] ((S.2 j1) &&& 31) = 22 from hx]
        replace h := h.1 (hj.trans (by decide +kernel))
        refine e_load q_0 rfl rfl rfl ?_
        refine e_load q_0 rfl rfl rfl ?_
        refine e_load q_0 rfl rfl rfl ?_
        refine e_push q_0 rfl ?_
        refine e_bin (r := x3 + 1) q_0 rfl rfl ?_
        obtain ⟨j2, hjj2, hlj2, h⟩ := h
        refine e_scr q_0 rfl hjj2 hlj2 hS ?_
        refine e_load q_0 rfl rfl rfl ?_
        refine e_load q_0 rfl rfl rfl ?_
        refine e_push q_0 rfl ?_
        refine e_bin (r := x3 + 2) q_0 rfl rfl ?_
        obtain ⟨j3, hjj3, hlj3, h⟩ := h
        refine e_scr q_0 rfl hjj3 hlj3 hS ?_
        exact e_virt q_0 rfl rfl (Nat.le_of_ble_eq_true rfl) rfl rfl (Nat.le_of_ble_eq_true rfl) rfl h
      | 1, hj, hl, hx =>
        rw [show m_swt 770 0 [22, 49, 76, 121, 148, 175, 202, 229, 256, 291, 308, 345, 382, 439, 456, 483, 510, 517, 534, 541, 566, 573, 598, 633, 658, 675, 702, 729, 746, 753] ((S.2 j1) &&& 31) = 49 from hx]
        replace h := h.2.1 (hj.trans (by decide +kernel))
        refine e_load q_0 rfl rfl rfl ?_
        refine e_load q_0 rfl rfl rfl ?_
        refine e_load q_0 rfl rfl rfl ?_
        refine e_push q_0 rfl ?_
        refine e_bin (r := x3 + 1) q_0 rfl rfl ?_
        obtain ⟨j4, hjj4, hlj4, h⟩ := h
        refine e_scr q_0 rfl hjj4 hlj4 hS ?_
        refine e_load q_0 rfl rfl rfl ?_
        refine e_load q_0 rfl rfl rfl ?_
        refine e_push q_0 rfl ?_
        refine e_bin (r := x3 + 2) q_0 rfl rfl ?_
        obtain ⟨j5, hjj5, hlj5, h⟩ := h
        refine e_scr q_0 rfl hjj5 hlj5 hS ?_
        exact e_virt q_0 rfl rfl (Nat.le_of_ble_eq_true rfl) rfl rfl (Nat.le_of_ble_eq_true rfl) rfl h
      | 2, hj, hl, hx =>
        rw [show m_swt 770 0 [22, 49, 76, 121, 148, 175, 202, 229, 256, 291, 308, 345, 382, 439, 456, 483, 510, 517, 534, 541, 566, 573, 598, 633, 658, 675, 702, 729, 746, 753] ((S.2 j1) &&& 31) = 76 from hx]
        replace h := h.2.2.1 (hj.trans (by decide +kernel))
        refine e_load q_0 rfl rfl rfl ?_
        refine e_load q_0 rfl rfl rfl ?_
        refine e_load q_0 rfl rfl rfl ?_
        refine e_push q_0 rfl ?_
        refine e_bin (r := x3 + 1) q_0 rfl rfl ?_
        obtain ⟨j6, hjj6, hlj6, h⟩ := h
        refine e_scr q_0 rfl hjj6 hlj6 hS ?_
        refine e_load q_0 rfl rfl rfl ?_
        refine e_load q_0 rfl rfl rfl ?_
        refine e_push q_0 rfl ?_
        refine e_bin (r := x3 + 2) q_0 rfl rfl ?_
        obtain ⟨j7, hjj7, hlj7, h⟩ := h
        refine e_scr q_0 rfl hjj7 hlj7 hS ?_
        refine e_load q_0 rfl rfl rfl ?_
        refine e_load q_0 rfl rfl rfl ?_
        refine e_push q_0 rfl ?_
        refine e_bin (r := x3 + 3) q_0 rfl rfl ?_
        obtain ⟨j8, hjj8, hlj8, h⟩ := h
        refine e_scr q_0 rfl hjj8 hlj8 hS ?_
        refine e_if (P := (S.2 j8) = 0) q_0 rfl m_c0 (fun c => ?_) (fun c => ?_)
        · replace h := h.1 c
          refine e_push q_0 rfl ?_
          exact e_virt q_0 rfl rfl (Nat.le_of_ble_eq_true rfl) rfl rfl (Nat.le_of_ble_eq_true rfl) rfl h
        · replace h := h.2 c
          refine e_push q_0 rfl ?_
          refine e_goto q_0 rfl ?_
          exact e_virt q_0 rfl rfl (Nat.le_of_ble_eq_true rfl) rfl rfl (Nat.le_of_ble_eq_true rfl) rfl h
      | 3, hj, hl, hx =>
        rw [show m_swt 770 0 [22, 49, 76, 121, 148, 175, 202, 229, 256, 291, 308, 345, 382, 439, 456, 483, 510, 517, 534, 541, 566, 573, 598, 633, 658, 675, 702, 729, 746, 753] ((S.2 j1) &&& 31) = 121 from hx]
        replace h := h.2.2.2.1 (hj.trans (by decide +kernel))
        refine e_load q_0 rfl rfl rfl ?_
        refine e_load q_0 rfl rfl rfl ?_
        refine e_load q_0 rfl rfl rfl ?_
        refine e_push q_0 rfl ?_
        refine e_bin (r := x3 + 1) q_0 rfl rfl ?_
        obtain ⟨j9, hjj9, hlj9, h⟩ := h
        refine e_scr q_0 rfl hjj9 hlj9 hS ?_
        refine e_load q_0 rfl rfl rfl ?_
        refine e_load q_0 rfl rfl rfl ?_
        refine e_push q_0 rfl ?_
        refine e_bin (r := x3 + 2) q_0 rfl rfl ?_
        obtain ⟨j10, hjj10, hlj10, h⟩ := h
        refine e_scr q_0 rfl hjj10 hlj10 hS ?_
        exact e_virt q_0 rfl rfl (Nat.le_of_ble_eq_true rfl) rfl rfl (Nat.le_of_ble_eq_true rfl) rfl h
      | 4, hj, hl, hx =>
        rw [show m_swt 770 0 [22, 49, 76, 121, 148, 175, 202, 229, 256, 291, 308, 345, 382, 439, 456, 483, 510, 517, 534, 541, 566, 573, 598, 633, 658, 675, 702, 729, 746, 753] ((S.2 j1) &&& 31) = 148 from hx]
        replace h := h.2.2.2.2.1 (hj.trans (by decide +kernel))
        refine e_load q_0 rfl rfl rfl ?_
        refine e_load q_0 rfl rfl rfl ?_
        refine e_load q_0 rfl rfl rfl ?_
        refine e_push q_0 rfl ?_
        refine e_bin (r := x3 + 1) q_0 rfl rfl ?_
        obtain ⟨j11, hjj11, hlj11, h⟩ := h
        refine e_scr q_0 rfl hjj11 hlj11 hS ?_
        refine e_load q_0 rfl rfl rfl ?_
        refine e_load q_0 rfl rfl rfl ?_
        refine e_push q_0 rfl ?_
        refine e_bin (r := x3 + 2) q_0 rfl rfl ?_
        obtain ⟨j12, hjj12, hlj12, h⟩ := h
        refine e_scr q_0 rfl hjj12 hlj12 hS ?_
        exact e_virt q_0 rfl rfl (Nat.le_of_ble_eq_true rfl) rfl rfl (Nat.le_of_ble_eq_true rfl) rfl h
      | 5, hj, hl, hx =>
        rw [show m_swt 770 0 [22, 49, 76, 121, 148, 175, 202, 229, 256, 291, 308, 345, 382, 439, 456, 483, 510, 517, 534, 541, 566, 573, 598, 633, 658, 675, 702, 729, 746, 753] ((S.2 j1) &&& 31) = 175 from hx]
        replace h := h.2.2.2.2.2.1 (hj.trans (by decide +kernel))
        refine e_load q_0 rfl rfl rfl ?_
        refine e_load q_0 rfl rfl rfl ?_
        refine e_load q_0 rfl rfl rfl ?_
        refine e_push q_0 rfl ?_
        refine e_bin (r := x3 + 1) q_0 rfl rfl ?_
        obtain ⟨j13, hjj13, hlj13, h⟩ := h
        refine e_scr q_0 rfl hjj13 hlj13 hS ?_
        refine e_load q_0 rfl rfl rfl ?_
        refine e_load q_0 rfl rfl rfl ?_
        refine e_push q_0 rfl ?_
        refine e_bin (r := x3 + 2) q_0 rfl rfl ?_
        obtain ⟨j14, hjj14, hlj14, h⟩ := h
        refine e_scr q_0 rfl hjj14 hlj14 hS ?_
        exact e_virt q_0 rfl rfl (Nat.le_of_ble_eq_true rfl) rfl rfl (Nat.le_of_ble_eq_true rfl) rfl h
      | 6, hj, hl, hx =>
        rw [show m_swt 770 0 [22, 49, 76, 121, 148, 175, 202, 229, 256, 291, 308, 345, 382, 439, 456, 483, 510, 517, 534, 541, 566, 573, 598, 633, 658, 675, 702, 729, 746, 753] ((S.2 j1) &&& 31) = 202 from hx]
        replace h := h.2.2.2.2.2.2.1 (hj.trans (by decide +kernel))
        refine e_load q_0 rfl rfl rfl ?_
        refine e_load q_0 rfl rfl rfl ?_
        refine e_load q_0 rfl rfl rfl ?_
        refine e_push q_0 rfl ?_
        refine e_bin (r := x3 + 1) q_0 rfl rfl ?_
        obtain ⟨j15, hjj15, hlj15, h⟩ := h
        refine e_scr q_0 rfl hjj15 hlj15 hS ?_
        refine e_load q_0 rfl rfl rfl ?_
        refine e_load q_0 rfl rfl rfl ?_
        refine e_push q_0 rfl ?_
        refine e_bin (r := x3 + 2) q_0 rfl rfl ?_
        obtain ⟨j16, hjj16, hlj16, h⟩ := h
        refine e_scr q_0 rfl hjj16 hlj16 hS ?_
        exact e_virt q_0 rfl rfl (Nat.le_of_ble_eq_true rfl) rfl rfl (Nat.le_of_ble_eq_true rfl) rfl h
      | 7, hj, hl, hx =>
        rw [show m_swt 770 0 [22, 49, 76, 121, 148, 175, 202, 229, 256, 291, 308, 345, 382, 439, 456, 483, 510, 517, 534, 541, 566, 573, 598, 633, 658, 675, 702, 729, 746, 753] ((S.2 j1) &&& 31) = 229 from hx]
        replace h := h.2.2.2.2.2.2.2.1 (hj.trans (by decide +kernel))
        refine e_load q_0 rfl rfl rfl ?_
        refine e_load q_0 rfl rfl rfl ?_
        refine e_load q_0 rfl rfl rfl ?_
        refine e_push q_0 rfl ?_
        refine e_bin (r := x3 + 1) q_0 rfl rfl ?_
        obtain ⟨j17, hjj17, hlj17, h⟩ := h
        refine e_scr q_0 rfl hjj17 hlj17 hS ?_
        refine e_load q_0 rfl rfl rfl ?_
        refine e_load q_0 rfl rfl rfl ?_
        refine e_push q_0 rfl ?_
        refine e_bin (r := x3 + 2) q_0 rfl rfl ?_
        obtain ⟨j18, hjj18, hlj18, h⟩ := h
        refine e_scr q_0 rfl hjj18 hlj18 hS ?_
        exact e_virt q_0 rfl rfl (Nat.le_of_ble_eq_true rfl) rfl rfl (Nat.le_of_ble_eq_true rfl) rfl h
      | 8, hj, hl, hx =>
        rw [show m_swt 770 0 [22, 49, 76, 121, 148, 175, 202, 229, 256, 291, 308, 345, 382, 439, 456, 483, 510, 517, 534, 541, 566, 573, 598, 633, 658, 675, 702, 729, 746, 753] ((S.2 j1) &&& 31) = 256 from hx]
        replace h := h.2.2.2.2.2.2.2.2.1 (hj.trans (by decide +kernel))
        refine e_load q_0 rfl rfl rfl ?_
        refine e_load q_0 rfl rfl rfl ?_
        refine e_load q_0 rfl rfl rfl ?_
        refine e_push q_0 rfl ?_
        refine e_bin (r := x3 + 1) q_0 rfl rfl ?_
        obtain ⟨j19, hjj19, hlj19, h⟩ := h
        refine e_scr q_0 rfl hjj19 hlj19 hS ?_
        refine e_load q_0 rfl rfl rfl ?_
        refine e_load q_0 rfl rfl rfl ?_
        refine e_push q_0 rfl ?_
        refine e_bin (r := x3 + 2) q_0 rfl rfl ?_
        obtain ⟨j20, hjj20, hlj20, h⟩ := h
        refine e_scr q_0 rfl hjj20 hlj20 hS ?_
        refine e_if (P := (S.2 j20) = 0) q_0 rfl m_c0 (fun c => ?_) (fun c => ?_)
        · replace h := h.1 c
          refine e_push q_0 rfl ?_
          exact e_virt q_0 rfl rfl (Nat.le_of_ble_eq_true rfl) rfl rfl (Nat.le_of_ble_eq_true rfl) rfl h
        · replace h := h.2 c
          refine e_push q_0 rfl ?_
          refine e_goto q_0 rfl ?_
          exact e_virt q_0 rfl rfl (Nat.le_of_ble_eq_true rfl) rfl rfl (Nat.le_of_ble_eq_true rfl) rfl h
      | 9, hj, hl, hx =>
        rw [show m_swt 770 0 [22, 49, 76, 121, 148, 175, 202, 229, 256, 291, 308, 345, 382, 439, 456, 483, 510, 517, 534, 541, 566, 573, 598, 633, 658, 675, 702, 729, 746, 753] ((S.2 j1) &&& 31) = 291 from hx]
        replace h := h.2.2.2.2.2.2.2.2.2.1 (hj.trans (by decide +kernel))
        refine e_load q_0 rfl rfl rfl ?_
        refine e_load q_0 rfl rfl rfl ?_
        refine e_load q_0 rfl rfl rfl ?_
        refine e_push q_0 rfl ?_
        refine e_bin (r := x3 + 1) q_0 rfl rfl ?_
        obtain ⟨j21, hjj21, hlj21, h⟩ := h
        refine e_scr q_0 rfl hjj21 hlj21 hS ?_
        exact e_virt q_0 rfl rfl (Nat.le_of_ble_eq_true rfl) rfl rfl (Nat.le_of_ble_eq_true rfl) rfl h
      | 10, hj, hl, hx =>
        rw [show m_swt 770 0 [22, 49, 76, 121, 148, 175, 202, 229, 256, 291, 308, 345, 382, 439, 456, 483, 510, 517, 534, 541, 566, 573, 598, 633, 658, 675, 702, 729, 746, 753] ((S.2 j1) &&& 31) = 308 from hx]
        replace h := h.2.2.2.2.2.2.2.2.2.2.1 (hj.trans (by decide +kernel))
        refine e_load q_0 rfl rfl rfl ?_
        refine e_load q_0 rfl rfl rfl ?_
        refine e_load q_0 rfl rfl rfl ?_
        refine e_push q_0 rfl ?_
        refine e_bin (r := x3 + 1) q_0 rfl rfl ?_
        obtain ⟨j22, hjj22, hlj22, h⟩ := h
        refine e_scr q_0 rfl hjj22 hlj22 hS ?_
        refine e_load q_0 rfl rfl rfl ?_
        refine e_load q_0 rfl rfl rfl ?_
        refine e_push q_0 rfl ?_
        refine e_bin (r := x3 + 2) q_0 rfl rfl ?_
        obtain ⟨j23, hjj23, hlj23, h⟩ := h
        refine e_scr q_0 rfl hjj23 hlj23 hS ?_
        refine e_load q_0 rfl rfl rfl ?_
        refine e_load q_0 rfl rfl rfl ?_
        refine e_push q_0 rfl ?_
        refine e_bin (r := x3 + 3) q_0 rfl rfl ?_
        obtain ⟨j24, hjj24, hlj24, h⟩ := h
        refine e_scr q_0 rfl hjj24 hlj24 hS ?_
        exact e_virt q_0 rfl rfl (Nat.le_of_ble_eq_true rfl) rfl rfl (Nat.le_of_ble_eq_true rfl) rfl h
      | 11, hj, hl, hx =>
        rw [show m_swt 770 0 [22, 49, 76, 121, 148, 175, 202, 229, 256, 291, 308, 345, 382, 439, 456, 483, 510, 517, 534, 541, 566, 573, 598, 633, 658, 675, 702, 729, 746, 753] ((S.2 j1) &&& 31) = 345 from hx]
        replace h := h.2.2.2.2.2.2.2.2.2.2.2.1 (hj.trans (by decide +kernel))
        refine e_load q_0 rfl rfl rfl ?_
        refine e_load q_0 rfl rfl rfl ?_
        refine e_load q_0 rfl rfl rfl ?_
        refine e_push q_0 rfl ?_
        refine e_bin (r := x3 + 1) q_0 rfl rfl ?_
        obtain ⟨j25, hjj25, hlj25, h⟩ := h
        refine e_scr q_0 rfl hjj25 hlj25 hS ?_
        refine e_load q_0 rfl rfl rfl ?_
        refine e_load q_0 rfl rfl rfl ?_
        refine e_push q_0 rfl ?_
        refine e_bin (r := x3 + 2) q_0 rfl rfl ?_
        obtain ⟨j26, hjj26, hlj26, h⟩ := h
        refine e_scr q_0 rfl hjj26 hlj26 hS ?_
        refine e_load q_0 rfl rfl rfl ?_
        refine e_load q_0 rfl rfl rfl ?_
        refine e_push q_0 rfl ?_
        refine e_bin (r := x3 + 3) q_0 rfl rfl ?_
        obtain ⟨j27, hjj27, hlj27, h⟩ := h
        refine e_scr q_0 rfl hjj27 hlj27 hS ?_
        exact e_virt q_0 rfl rfl (Nat.le_of_ble_eq_true rfl) rfl rfl (Nat.le_of_ble_eq_true rfl) rfl h
      | 12, hj, hl, hx =>
        rw [show m_swt 770 0 [22, 49, 76, 121, 148, 175, 202, 229, 256, 291, 308, 345, 382, 439, 456, 483, 510, 517, 534, 541, 566, 573, 598, 633, 658, 675, 702, 729, 746, 753] ((S.2 j1) &&& 31) = 382 from hx]
        replace h := h.2.2.2.2.2.2.2.2.2.2.2.2.1 (hj.trans (by decide +kernel))
        refine e_load q_0 rfl rfl rfl ?_
        refine e_load q_0 rfl rfl rfl ?_
        refine e_load q_0 rfl rfl rfl ?_
        refine e_push q_0 rfl ?_
        refine e_bin (r := x3 + 1) q_0 rfl rfl ?_
        obtain ⟨j28, hjj28, hlj28, h⟩ := h
        refine e_scr q_0 rfl hjj28 hlj28 hS ?_
        refine e_load q_0 rfl rfl rfl ?_
        refine e_load q_0 rfl rfl rfl ?_
        refine e_push q_0 rfl ?_
        refine e_bin (r := x3 + 2) q_0 rfl rfl ?_
        obtain ⟨j29, hjj29, hlj29, h⟩ := h
        refine e_scr q_0 rfl hjj29 hlj29 hS ?_
        refine e_load q_0 rfl rfl rfl ?_
        refine e_load q_0 rfl rfl rfl ?_
        refine e_push q_0 rfl ?_
        refine e_bin (r := x3 + 3) q_0 rfl rfl ?_
        obtain ⟨j30, hjj30, hlj30, h⟩ := h
        refine e_scr q_0 rfl hjj30 hlj30 hS ?_
        refine e_load q_0 rfl rfl rfl ?_
        refine e_load q_0 rfl rfl rfl ?_
        refine e_push q_0 rfl ?_
        refine e_bin (r := x3 + 4) q_0 rfl rfl ?_
        obtain ⟨j31, hjj31, hlj31, h⟩ := h
        refine e_scr q_0 rfl hjj31 hlj31 hS ?_
        refine e_load q_0 rfl rfl rfl ?_
        refine e_load q_0 rfl rfl rfl ?_
        refine e_push q_0 rfl ?_
        refine e_bin (r := x3 + 5) q_0 rfl rfl ?_
        obtain ⟨j32, hjj32, hlj32, h⟩ := h
        refine e_scr q_0 rfl hjj32 hlj32 hS ?_
        exact e_virt q_0 rfl rfl (Nat.le_of_ble_eq_true rfl) rfl rfl (Nat.le_of_ble_eq_true rfl) rfl h
      | 13, hj, hl, hx =>
        rw [show m_swt 770 0 [22, 49, 76, 121, 148, 175, 202, 229, 256, 291, 308, 345, 382, 439, 456, 483, 510, 517, 534, 541, 566, 573, 598, 633, 658, 675, 702, 729, 746, 753] ((S.2 j1) &&& 31) = 439 from hx]
        replace h := h.2.2.2.2.2.2.2.2.2.2.2.2.2.1 (hj.trans (by decide +kernel))
        refine e_load q_0 rfl rfl rfl ?_
        refine e_load q_0 rfl rfl rfl ?_
        refine e_load q_0 rfl rfl rfl ?_
        refine e_push q_0 rfl ?_
        refine e_bin (r := x3 + 1) q_0 rfl rfl ?_
        obtain ⟨j33, hjj33, hlj33, h⟩ := h
        refine e_scr q_0 rfl hjj33 hlj33 hS ?_
        exact e_virt q_0 rfl rfl (Nat.le_of_ble_eq_true rfl) rfl rfl (Nat.le_of_ble_eq_true rfl) rfl h
      | 14, hj, hl, hx =>
        rw [show m_swt 770 0 [22, 49, 76, 121, 148, 175, 202, 229, 256, 291, 308, 345, 382, 439, 456, 483, 510, 517, 534, 541, 566, 573, 598, 633, 658, 675, 702, 729, 746, 753] ((S.2 j1) &&& 31) = 456 from hx]
        replace h := h.2.2.2.2.2.2.2.2.2.2.2.2.2.2.1 (hj.trans (by decide +kernel))
        refine e_load q_0 rfl rfl rfl ?_
        refine e_load q_0 rfl rfl rfl ?_
        refine e_load q_0 rfl rfl rfl ?_
        refine e_push q_0 rfl ?_
        refine e_bin (r := x3 + 1) q_0 rfl rfl ?_
        obtain ⟨j34, hjj34, hlj34, h⟩ := h
        refine e_scr q_0 rfl hjj34 hlj34 hS ?_
        refine e_load q_0 rfl rfl rfl ?_
        refine e_load q_0 rfl rfl rfl ?_
        refine e_push q_0 rfl ?_
        refine e_bin (r := x3 + 2) q_0 rfl rfl ?_
        obtain ⟨j35, hjj35, hlj35, h⟩ := h
        refine e_scr q_0 rfl hjj35 hlj35 hS ?_
        exact e_virt q_0 rfl rfl (Nat.le_of_ble_eq_true rfl) rfl rfl (Nat.le_of_ble_eq_true rfl) rfl h
      | 15, hj, hl, hx =>
        rw [show m_swt 770 0 [22, 49, 76, 121, 148, 175, 202, 229, 256, 291, 308, 345, 382, 439, 456, 483, 510, 517, 534, 541, 566, 573, 598, 633, 658, 675, 702, 729, 746, 753] ((S.2 j1) &&& 31) = 483 from hx]
        replace h := h.2.2.2.2.2.2.2.2.2.2.2.2.2.2.2.1 (hj.trans (by decide +kernel))
        refine e_load q_0 rfl rfl rfl ?_
        refine e_load q_0 rfl rfl rfl ?_
        refine e_load q_0 rfl rfl rfl ?_
        refine e_push q_0 rfl ?_
        refine e_bin (r := x3 + 1) q_0 rfl rfl ?_
        obtain ⟨j36, hjj36, hlj36, h⟩ := h
        refine e_scr q_0 rfl hjj36 hlj36 hS ?_
        refine e_load q_0 rfl rfl rfl ?_
        refine e_load q_0 rfl rfl rfl ?_
        refine e_push q_0 rfl ?_
        refine e_bin (r := x3 + 2) q_0 rfl rfl ?_
        obtain ⟨j37, hjj37, hlj37, h⟩ := h
        refine e_scr q_0 rfl hjj37 hlj37 hS ?_
        exact e_virt q_0 rfl rfl (Nat.le_of_ble_eq_true rfl) rfl rfl (Nat.le_of_ble_eq_true rfl) rfl h
      | 16, hj, hl, hx =>
        rw [show m_swt 770 0 [22, 49, 76, 121, 148, 175, 202, 229, 256, 291, 308, 345, 382, 439, 456, 483, 510, 517, 534, 541, 566, 573, 598, 633, 658, 675, 702, 729, 746, 753] ((S.2 j1) &&& 31) = 510 from hx]
        replace h := h.2.2.2.2.2.2.2.2.2.2.2.2.2.2.2.2.1 (hj.trans (by decide +kernel))
        refine e_load q_0 rfl rfl rfl ?_
        exact e_virt q_0 rfl rfl (Nat.le_of_ble_eq_true rfl) rfl rfl (Nat.le_of_ble_eq_true rfl) rfl h
      | 17, hj, hl, hx =>
        rw [show m_swt 770 0 [22, 49, 76, 121, 148, 175, 202, 229, 256, 291, 308, 345, 382, 439, 456, 483, 510, 517, 534, 541, 566, 573, 598, 633, 658, 675, 702, 729, 746, 753] ((S.2 j1) &&& 31) = 517 from hx]
        replace h := h.2.2.2.2.2.2.2.2.2.2.2.2.2.2.2.2.2.1 (hj.trans (by decide +kernel))
        refine e_load q_0 rfl rfl rfl ?_
        refine e_load q_0 rfl rfl rfl ?_
        refine e_load q_0 rfl rfl rfl ?_
        refine e_push q_0 rfl ?_
        refine e_bin (r := x3 + 1) q_0 rfl rfl ?_
        obtain ⟨j38, hjj38, hlj38, h⟩ := h
        refine e_scr q_0 rfl hjj38 hlj38 hS ?_
        exact e_virt q_0 rfl rfl (Nat.le_of_ble_eq_true rfl) rfl rfl (Nat.le_of_ble_eq_true rfl) rfl h
      | 18, hj, hl, hx =>
        rw [show m_swt 770 0 [22, 49, 76, 121, 148, 175, 202, 229, 256, 291, 308, 345, 382, 439, 456, 483, 510, 517, 534, 541, 566, 573, 598, 633, 658, 675, 702, 729, 746, 753] ((S.2 j1) &&& 31) = 534 from hx]
        replace h := h.2.2.2.2.2.2.2.2.2.2.2.2.2.2.2.2.2.2.1 (hj.trans (by decide +kernel))
        refine e_load q_0 rfl rfl rfl ?_
        exact e_virt q_0 rfl rfl (Nat.le_of_ble_eq_true rfl) rfl rfl (Nat.le_of_ble_eq_true rfl) rfl h
      | 19, hj, hl, hx =>
        rw [show m_swt 770 0 [22, 49, 76, 121, 148, 175, 202, 229, 256, 291, 308, 345, 382, 439, 456, 483, 510, 517, 534, 541, 566, 573, 598, 633, 658, 675, 702, 729, 746, 753] ((S.2 j1) &&& 31) = 541 from hx]
        replace h := h.2.2.2.2.2.2.2.2.2.2.2.2.2.2.2.2.2.2.2.1 (hj.trans (by decide +kernel))
        refine e_load q_0 rfl rfl rfl ?_
        refine e_load q_0 rfl rfl rfl ?_
        refine e_load q_0 rfl rfl rfl ?_
        refine e_push q_0 rfl ?_
        refine e_bin (r := x3 + 1) q_0 rfl rfl ?_
        obtain ⟨j39, hjj39, hlj39, h⟩ := h
        refine e_scr q_0 rfl hjj39 hlj39 hS ?_
        refine e_if (P := (S.2 j39) = 0) q_0 rfl m_c0 (fun c => ?_) (fun c => ?_)
        · replace h := h.1 c
          refine e_push q_0 rfl ?_
          exact e_virt q_0 rfl rfl (Nat.le_of_ble_eq_true rfl) rfl rfl (Nat.le_of_ble_eq_true rfl) rfl h
        · replace h := h.2 c
          refine e_push q_0 rfl ?_
          refine e_goto q_0 rfl ?_
          exact e_virt q_0 rfl rfl (Nat.le_of_ble_eq_true rfl) rfl rfl (Nat.le_of_ble_eq_true rfl) rfl h
      | 20, hj, hl, hx =>
        rw [show m_swt 770 0 [22, 49, 76, 121, 148, 175, 202, 229, 256, 291, 308, 345, 382, 439, 456, 483, 510, 517, 534, 541, 566, 573, 598, 633, 658, 675, 702, 729, 746, 753] ((S.2 j1) &&& 31) = 566 from hx]
        replace h := h.2.2.2.2.2.2.2.2.2.2.2.2.2.2.2.2.2.2.2.2.1 (hj.trans (by decide +kernel))
        refine e_load q_0 rfl rfl rfl ?_
        exact e_virt q_0 rfl rfl (Nat.le_of_ble_eq_true rfl) rfl rfl (Nat.le_of_ble_eq_true rfl) rfl h
      | 21, hj, hl, hx =>
        rw [show m_swt 770 0 [22, 49, 76, 121, 148, 175, 202, 229, 256, 291, 308, 345, 382, 439, 456, 483, 510, 517, 534, 541, 566, 573, 598, 633, 658, 675, 702, 729, 746, 753] ((S.2 j1) &&& 31) = 573 from hx]
        replace h := h.2.2.2.2.2.2.2.2.2.2.2.2.2.2.2.2.2.2.2.2.2.1 (hj.trans (by decide +kernel))
        refine e_load q_0 rfl rfl rfl ?_
        refine e_load q_0 rfl rfl rfl ?_
        refine e_load q_0 rfl rfl rfl ?_
        refine e_push q_0 rfl ?_
        refine e_bin (r := x3 + 1) q_0 rfl rfl ?_
        obtain ⟨j40, hjj40, hlj40, h⟩ := h
        refine e_scr q_0 rfl hjj40 hlj40 hS ?_
        refine e_if (P := (S.2 j40) = 0) q_0 rfl m_c0 (fun c => ?_) (fun c => ?_)
        · replace h := h.1 c
          refine e_push q_0 rfl ?_
          exact e_virt q_0 rfl rfl (Nat.le_of_ble_eq_true rfl) rfl rfl (Nat.le_of_ble_eq_true rfl) rfl h
        · replace h := h.2 c
          refine e_push q_0 rfl ?_
          refine e_goto q_0 rfl ?_
          exact e_virt q_0 rfl rfl (Nat.le_of_ble_eq_true rfl) rfl rfl (Nat.le_of_ble_eq_true rfl) rfl h
      | 22, hj, hl, hx =>
        rw [show m_swt 770 0 [22, 49, 76, 121, 148, 175, 202, 229, 256, 291, 308, 345, 382, 439, 456, 483, 510, 517, 534, 541, 566, 573, 598, 633, 658, 675, 702, 729, 746, 753] ((S.2 j1) &&& 31) = 598 from hx]
        replace h := h.2.2.2.2.2.2.2.2.2.2.2.2.2.2.2.2.2.2.2.2.2.2.1 (hj.trans (by decide +kernel))
        refine e_load q_0 rfl rfl rfl ?_
        refine e_load q_0 rfl rfl rfl ?_
        refine e_load q_0 rfl rfl rfl ?_
        refine e_push q_0 rfl ?_
        refine e_bin (r := x3 + 1) q_0 rfl rfl ?_
        obtain ⟨j41, hjj41, hlj41, h⟩ := h
        refine e_scr q_0 rfl hjj41 hlj41 hS ?_
        refine e_load q_0 rfl rfl rfl ?_
        refine e_load q_0 rfl rfl rfl ?_
        refine e_push q_0 rfl ?_
        refine e_bin (r := x3 + 2) q_0 rfl rfl ?_
        obtain ⟨j42, hjj42, hlj42, h⟩ := h
        refine e_scr q_0 rfl hjj42 hlj42 hS ?_
        refine e_if (P := (S.2 j42) = 0) q_0 rfl m_c0 (fun c => ?_) (fun c => ?_)
        · replace h := h.1 c
          refine e_push q_0 rfl ?_
          exact e_virt q_0 rfl rfl (Nat.le_of_ble_eq_true rfl) rfl rfl (Nat.le_of_ble_eq_true rfl) rfl h
        · replace h := h.2 c
          refine e_push q_0 rfl ?_
          refine e_goto q_0 rfl ?_
          exact e_virt q_0 rfl rfl (Nat.le_of_ble_eq_true rfl) rfl rfl (Nat.le_of_ble_eq_true rfl) rfl h
      | 23, hj, hl, hx =>
        rw [show m_swt 770 0 [22, 49, 76, 121, 148, 175, 202, 229, 256, 291, 308, 345, 382, 439, 456, 483, 510, 517, 534, 541, 566, 573, 598, 633, 658, 675, 702, 729, 746, 753] ((S.2 j1) &&& 31) = 633 from hx]
        replace h := h.2.2.2.2.2.2.2.2.2.2.2.2.2.2.2.2.2.2.2.2.2.2.2.1 (hj.trans (by decide +kernel))
        refine e_load q_0 rfl rfl rfl ?_
        refine e_load q_0 rfl rfl rfl ?_
        refine e_load q_0 rfl rfl rfl ?_
        refine e_push q_0 rfl ?_
        refine e_bin (r := x3 + 1) q_0 rfl rfl ?_
        obtain ⟨j43, hjj43, hlj43, h⟩ := h
        refine e_scr q_0 rfl hjj43 hlj43 hS ?_
        refine e_if (P := (S.2 j43) = 0) q_0 rfl m_c0 (fun c => ?_) (fun c => ?_)
        · replace h := h.1 c
          refine e_push q_0 rfl ?_
          exact e_virt q_0 rfl rfl (Nat.le_of_ble_eq_true rfl) rfl rfl (Nat.le_of_ble_eq_true rfl) rfl h
        · replace h := h.2 c
          refine e_push q_0 rfl ?_
          refine e_goto q_0 rfl ?_
          exact e_virt q_0 rfl rfl (Nat.le_of_ble_eq_true rfl) rfl rfl (Nat.le_of_ble_eq_true rfl) rfl h
      | 24, hj, hl, hx =>
        rw [show m_swt 770 0 [22, 49, 76, 121, 148, 175, 202, 229, 256, 291, 308, 345, 382, 439, 456, 483, 510, 517, 534, 541, 566, 573, 598, 633, 658, 675, 702, 729, 746, 753] ((S.2 j1) &&& 31) = 658 from hx]
        replace h := h.2.2.2.2.2.2.2.2.2.2.2.2.2.2.2.2.2.2.2.2.2.2.2.2.1 (hj.trans (by decide +kernel))
        refine e_load q_0 rfl rfl rfl ?_
        refine e_load q_0 rfl rfl rfl ?_
        refine e_load q_0 rfl rfl rfl ?_
        refine e_push q_0 rfl ?_
        refine e_bin (r := x3 + 1) q_0 rfl rfl ?_
        obtain ⟨j44, hjj44, hlj44, h⟩ := h
        refine e_scr q_0 rfl hjj44 hlj44 hS ?_
        exact e_virt q_0 rfl rfl (Nat.le_of_ble_eq_true rfl) rfl rfl (Nat.le_of_ble_eq_true rfl) rfl h
      | 25, hj, hl, hx =>
        rw [show m_swt 770 0 [22, 49, 76, 121, 148, 175, 202, 229, 256, 291, 308, 345, 382, 439, 456, 483, 510, 517, 534, 541, 566, 573, 598, 633, 658, 675, 702, 729, 746, 753] ((S.2 j1) &&& 31) = 675 from hx]
        replace h := h.2.2.2.2.2.2.2.2.2.2.2.2.2.2.2.2.2.2.2.2.2.2.2.2.2.1 (hj.trans (by decide +kernel))
        refine e_load q_0 rfl rfl rfl ?_
        refine e_load q_0 rfl rfl rfl ?_
        refine e_load q_0 rfl rfl rfl ?_
        refine e_push q_0 rfl ?_
        refine e_bin (r := x3 + 1) q_0 rfl rfl ?_
        obtain ⟨j45, hjj45, hlj45, h⟩ := h
        refine e_scr q_0 rfl hjj45 hlj45 hS ?_
        refine e_load q_0 rfl rfl rfl ?_
        refine e_load q_0 rfl rfl rfl ?_
        refine e_push q_0 rfl ?_
        refine e_bin (r := x3 + 2) q_0 rfl rfl ?_
        obtain ⟨j46, hjj46, hlj46, h⟩ := h
        refine e_scr q_0 rfl hjj46 hlj46 hS ?_
        exact e_virt q_0 rfl rfl (Nat.le_of_ble_eq_true rfl) rfl rfl (Nat.le_of_ble_eq_true rfl) rfl h
      | 26, hj, hl, hx =>
        rw [show m_swt 770 0 [22, 49, 76, 121, 148, 175, 202, 229, 256, 291, 308, 345, 382, 439, 456, 483, 510, 517, 534, 541, 566, 573, 598, 633, 658, 675, 702, 729, 746, 753] ((S.2 j1) &&& 31) = 702 from hx]
        replace h := h.2.2.2.2.2.2.2.2.2.2.2.2.2.2.2.2.2.2.2.2.2.2.2.2.2.2.1 (hj.trans (by decide +kernel))
        refine e_load q_0 rfl rfl rfl ?_
        refine e_load q_0 rfl rfl rfl ?_
        refine e_load q_0 rfl rfl rfl ?_
        refine e_push q_0 rfl ?_
        refine e_bin (r := x3 + 1) q_0 rfl rfl ?_
        obtain ⟨j47, hjj47, hlj47, h⟩ := h
        refine e_scr q_0 rfl hjj47 hlj47 hS ?_
        refine e_load q_0 rfl rfl rfl ?_
        refine e_load q_0 rfl rfl rfl ?_
        refine e_push q_0 rfl ?_
        refine e_bin (r := x3 + 2) q_0 rfl rfl ?_
        obtain ⟨j48, hjj48, hlj48, h⟩ := h
        refine e_scr q_0 rfl hjj48 hlj48 hS ?_
        exact e_virt q_0 rfl rfl (Nat.le_of_ble_eq_true rfl) rfl rfl (Nat.le_of_ble_eq_true rfl) rfl h
      | 27, hj, hl, hx =>
        rw [show m_swt 770 0 [22, 49, 76, 121, 148, 175, 202, 229, 256, 291, 308, 345, 382, 439, 456, 483, 510, 517, 534, 541, 566, 573, 598, 633, 658, 675, 702, 729, 746, 753] ((S.2 j1) &&& 31) = 729 from hx]
        replace h := h.2.2.2.2.2.2.2.2.2.2.2.2.2.2.2.2.2.2.2.2.2.2.2.2.2.2.2.1 (hj.trans (by decide +kernel))
        refine e_load q_0 rfl rfl rfl ?_
        refine e_load q_0 rfl rfl rfl ?_
        refine e_load q_0 rfl rfl rfl ?_
        refine e_push q_0 rfl ?_
        refine e_bin (r := x3 + 1) q_0 rfl rfl ?_
        obtain ⟨j49, hjj49, hlj49, h⟩ := h
        refine e_scr q_0 rfl hjj49 hlj49 hS ?_
        exact e_virt q_0 rfl rfl (Nat.le_of_ble_eq_true rfl) rfl rfl (Nat.le_of_ble_eq_true rfl) rfl h
      | 28, hj, hl, hx =>
        rw [show m_swt 770 0 [22, 49, 76, 121, 148, 175, 202, 229, 256, 291, 308, 345, 382, 439, 456, 483, 510, 517, 534, 541, 566, 573, 598, 633, 658, 675, 702, 729, 746, 753] ((S.2 j1) &&& 31) = 746 from hx]
        replace h := h.2.2.2.2.2.2.2.2.2.2.2.2.2.2.2.2.2.2.2.2.2.2.2.2.2.2.2.2.1 (hj.trans (by decide +kernel))
        refine e_load q_0 rfl rfl rfl ?_
        exact e_virt q_0 rfl rfl (Nat.le_of_ble_eq_true rfl) rfl rfl (Nat.le_of_ble_eq_true rfl) rfl h
      | 29, hj, hl, hx =>
        rw [show m_swt 770 0 [22, 49, 76, 121, 148, 175, 202, 229, 256, 291, 308, 345, 382, 439, 456, 483, 510, 517, 534, 541, 566, 573, 598, 633, 658, 675, 702, 729, 746, 753] ((S.2 j1) &&& 31) = 753 from hx]
        replace h := h.2.2.2.2.2.2.2.2.2.2.2.2.2.2.2.2.2.2.2.2.2.2.2.2.2.2.2.2.2.1 (hj.trans (by decide +kernel))
        refine e_load q_0 rfl rfl rfl ?_
        refine e_load q_0 rfl rfl rfl ?_
        refine e_load q_0 rfl rfl rfl ?_
        refine e_push q_0 rfl ?_
        refine e_bin (r := x3 + 1) q_0 rfl rfl ?_
        obtain ⟨j50, hjj50, hlj50, h⟩ := h
        refine e_scr q_0 rfl hjj50 hlj50 hS ?_
        exact e_virt q_0 rfl rfl (Nat.le_of_ble_eq_true rfl) rfl rfl (Nat.le_of_ble_eq_true rfl) rfl h
      | j + 30, hj, hl, hx => exact absurd hl (show ¬ j + 30 < 30 by omega)
    · rw [hx]
      replace h := h.2.2.2.2.2.2.2.2.2.2.2.2.2.2.2.2.2.2.2.2.2.2.2.2.2.2.2.2.2.2 hn
      refine e_iinc (ls' := [some (.inr (some m_scr)), some (.inr (some 0)), some (.inr (some 60)), some (.inl (x3 + 6))]) q_0 rfl rfl rfl ?_
      refine e_goto q_0 rfl ?_
      exact h
set_option maxHeartbeats 4000000 in
set_option maxRecDepth 20000 in
theorem g_0_34 {S : Nat × (Nat → Int32)} {d : Nat} {σ : Mem} {Q : MQ1} {x3 : Int32} {y0 : Int32} (hS : S.1 < 10000) (h : (∃ j1 : Nat, x3 + 1 = nI j1 ∧ j1 < S.1 ∧ (∃ j2 : Nat, x3 + 2 = nI j2 ∧ j2 < S.1 ∧ Ec S (d + 7) 128 [.inr (some 60), .inl (S.2 j1), .inl (S.2 j2)] σ (fun rv σ' => Ev S (d + 8) 0 46 [some (.inr (some m_scr)), some (.inr (some 0)), some (.inr (some 60)), some (.inl x3)] (rv ++ [.inl y0]) σ' Q)))) : Ev S (d + 8) 0 34 [some (.inr (some m_scr)), some (.inr (some 0)), some (.inr (some 60)), some (.inl x3)] [.inl y0] σ Q := by
  refine e_load q_0 rfl rfl rfl ?_
  refine e_load q_0 rfl rfl rfl ?_
  refine e_load q_0 rfl rfl rfl ?_
  refine e_push q_0 rfl ?_
  refine e_bin (r := x3 + 1) q_0 rfl rfl ?_
  obtain ⟨j1, hjj1, hlj1, h⟩ := h
  refine e_scr q_0 rfl hjj1 hlj1 hS ?_
  refine e_load q_0 rfl rfl rfl ?_
  refine e_load q_0 rfl rfl rfl ?_
  refine e_push q_0 rfl ?_
  refine e_bin (r := x3 + 2) q_0 rfl rfl ?_
  obtain ⟨j2, hjj2, hlj2, h⟩ := h
  refine e_scr q_0 rfl hjj2 hlj2 hS ?_
  exact e_virt q_0 rfl rfl (Nat.le_of_ble_eq_true rfl) rfl rfl (Nat.le_of_ble_eq_true rfl) rfl h
set_option maxHeartbeats 4000000 in
set_option maxRecDepth 20000 in
theorem g_0_61 {S : Nat × (Nat → Int32)} {d : Nat} {σ : Mem} {Q : MQ1} {x3 : Int32} {y0 : Int32} (hS : S.1 < 10000) (h : (∃ j1 : Nat, x3 + 1 = nI j1 ∧ j1 < S.1 ∧ (∃ j2 : Nat, x3 + 2 = nI j2 ∧ j2 < S.1 ∧ Ec S (d + 7) 129 [.inr (some 60), .inl (S.2 j1), .inl (S.2 j2)] σ (fun rv σ' => Ev S (d + 8) 0 73 [some (.inr (some m_scr)), some (.inr (some 0)), some (.inr (some 60)), some (.inl x3)] (rv ++ [.inl y0]) σ' Q)))) : Ev S (d + 8) 0 61 [some (.inr (some m_scr)), some (.inr (some 0)), some (.inr (some 60)), some (.inl x3)] [.inl y0] σ Q := by
  refine e_load q_0 rfl rfl rfl ?_
  refine e_load q_0 rfl rfl rfl ?_
  refine e_load q_0 rfl rfl rfl ?_
  refine e_push q_0 rfl ?_
  refine e_bin (r := x3 + 1) q_0 rfl rfl ?_
  obtain ⟨j1, hjj1, hlj1, h⟩ := h
  refine e_scr q_0 rfl hjj1 hlj1 hS ?_
  refine e_load q_0 rfl rfl rfl ?_
  refine e_load q_0 rfl rfl rfl ?_
  refine e_push q_0 rfl ?_
  refine e_bin (r := x3 + 2) q_0 rfl rfl ?_
  obtain ⟨j2, hjj2, hlj2, h⟩ := h
  refine e_scr q_0 rfl hjj2 hlj2 hS ?_
  exact e_virt q_0 rfl rfl (Nat.le_of_ble_eq_true rfl) rfl rfl (Nat.le_of_ble_eq_true rfl) rfl h
set_option maxHeartbeats 4000000 in
set_option maxRecDepth 20000 in
theorem g_0_97 {S : Nat × (Nat → Int32)} {d : Nat} {σ : Mem} {Q : MQ1} {x3 : Int32} {y0 : Int32} (hS : S.1 < 10000) (h : (∃ j1 : Nat, x3 + 1 = nI j1 ∧ j1 < S.1 ∧ (∃ j2 : Nat, x3 + 2 = nI j2 ∧ j2 < S.1 ∧ (∃ j3 : Nat, x3 + 3 = nI j3 ∧ j3 < S.1 ∧ (((S.2 j3) = 0 → Ec S (d + 7) 131 [.inr (some 60), .inl (S.2 j1), .inl (S.2 j2), .inl 0] σ (fun rv σ' => Ev S (d + 8) 0 118 [some (.inr (some m_scr)), some (.inr (some 0)), some (.inr (some 60)), some (.inl x3)] (rv ++ [.inl y0]) σ' Q)) ∧ (¬ ((S.2 j3) = 0) → Ec S (d + 7) 131 [.inr (some 60), .inl (S.2 j1), .inl (S.2 j2), .inl 1] σ (fun rv σ' => Ev S (d + 8) 0 118 [some (.inr (some m_scr)), some (.inr (some 0)), some (.inr (some 60)), some (.inl x3)] (rv ++ [.inl y0]) σ' Q))))))) : Ev S (d + 8) 0 97 [some (.inr (some m_scr)), some (.inr (some 0)), some (.inr (some 60)), some (.inl x3)] [.inl y0] σ Q := by
  refine e_load q_0 rfl rfl rfl ?_
  refine e_load q_0 rfl rfl rfl ?_
  refine e_load q_0 rfl rfl rfl ?_
  refine e_push q_0 rfl ?_
  refine e_bin (r := x3 + 1) q_0 rfl rfl ?_
  obtain ⟨j1, hjj1, hlj1, h⟩ := h
  refine e_scr q_0 rfl hjj1 hlj1 hS ?_
  refine e_load q_0 rfl rfl rfl ?_
  refine e_load q_0 rfl rfl rfl ?_
  refine e_push q_0 rfl ?_
  refine e_bin (r := x3 + 2) q_0 rfl rfl ?_
  obtain ⟨j2, hjj2, hlj2, h⟩ := h
  refine e_scr q_0 rfl hjj2 hlj2 hS ?_
  refine e_load q_0 rfl rfl rfl ?_
  refine e_load q_0 rfl rfl rfl ?_
  refine e_push q_0 rfl ?_
  refine e_bin (r := x3 + 3) q_0 rfl rfl ?_
  obtain ⟨j3, hjj3, hlj3, h⟩ := h
  refine e_scr q_0 rfl hjj3 hlj3 hS ?_
  refine e_if (P := (S.2 j3) = 0) q_0 rfl m_c0 (fun c => ?_) (fun c => ?_)
  · replace h := h.1 c
    refine e_push q_0 rfl ?_
    exact e_virt q_0 rfl rfl (Nat.le_of_ble_eq_true rfl) rfl rfl (Nat.le_of_ble_eq_true rfl) rfl h
  · replace h := h.2 c
    refine e_push q_0 rfl ?_
    refine e_goto q_0 rfl ?_
    exact e_virt q_0 rfl rfl (Nat.le_of_ble_eq_true rfl) rfl rfl (Nat.le_of_ble_eq_true rfl) rfl h
set_option maxHeartbeats 4000000 in
set_option maxRecDepth 20000 in
theorem g_0_133 {S : Nat × (Nat → Int32)} {d : Nat} {σ : Mem} {Q : MQ1} {x3 : Int32} {y0 : Int32} (hS : S.1 < 10000) (h : (∃ j1 : Nat, x3 + 1 = nI j1 ∧ j1 < S.1 ∧ (∃ j2 : Nat, x3 + 2 = nI j2 ∧ j2 < S.1 ∧ Ec S (d + 7) 133 [.inr (some 60), .inl (S.2 j1), .inl (S.2 j2)] σ (fun rv σ' => Ev S (d + 8) 0 145 [some (.inr (some m_scr)), some (.inr (some 0)), some (.inr (some 60)), some (.inl x3)] (rv ++ [.inl y0]) σ' Q)))) : Ev S (d + 8) 0 133 [some (.inr (some m_scr)), some (.inr (some 0)), some (.inr (some 60)), some (.inl x3)] [.inl y0] σ Q := by
  refine e_load q_0 rfl rfl rfl ?_
  refine e_load q_0 rfl rfl rfl ?_
  refine e_load q_0 rfl rfl rfl ?_
  refine e_push q_0 rfl ?_
  refine e_bin (r := x3 + 1) q_0 rfl rfl ?_
  obtain ⟨j1, hjj1, hlj1, h⟩ := h
  refine e_scr q_0 rfl hjj1 hlj1 hS ?_
  refine e_load q_0 rfl rfl rfl ?_
  refine e_load q_0 rfl rfl rfl ?_
  refine e_push q_0 rfl ?_
  refine e_bin (r := x3 + 2) q_0 rfl rfl ?_
  obtain ⟨j2, hjj2, hlj2, h⟩ := h
  refine e_scr q_0 rfl hjj2 hlj2 hS ?_
  exact e_virt q_0 rfl rfl (Nat.le_of_ble_eq_true rfl) rfl rfl (Nat.le_of_ble_eq_true rfl) rfl h
set_option maxHeartbeats 4000000 in
set_option maxRecDepth 20000 in
theorem g_0_160 {S : Nat × (Nat → Int32)} {d : Nat} {σ : Mem} {Q : MQ1} {x3 : Int32} {y0 : Int32} (hS : S.1 < 10000) (h : (∃ j1 : Nat, x3 + 1 = nI j1 ∧ j1 < S.1 ∧ (∃ j2 : Nat, x3 + 2 = nI j2 ∧ j2 < S.1 ∧ Ec S (d + 7) 134 [.inr (some 60), .inl (S.2 j1), .inl (S.2 j2)] σ (fun rv σ' => Ev S (d + 8) 0 172 [some (.inr (some m_scr)), some (.inr (some 0)), some (.inr (some 60)), some (.inl x3)] (rv ++ [.inl y0]) σ' Q)))) : Ev S (d + 8) 0 160 [some (.inr (some m_scr)), some (.inr (some 0)), some (.inr (some 60)), some (.inl x3)] [.inl y0] σ Q := by
  refine e_load q_0 rfl rfl rfl ?_
  refine e_load q_0 rfl rfl rfl ?_
  refine e_load q_0 rfl rfl rfl ?_
  refine e_push q_0 rfl ?_
  refine e_bin (r := x3 + 1) q_0 rfl rfl ?_
  obtain ⟨j1, hjj1, hlj1, h⟩ := h
  refine e_scr q_0 rfl hjj1 hlj1 hS ?_
  refine e_load q_0 rfl rfl rfl ?_
  refine e_load q_0 rfl rfl rfl ?_
  refine e_push q_0 rfl ?_
  refine e_bin (r := x3 + 2) q_0 rfl rfl ?_
  obtain ⟨j2, hjj2, hlj2, h⟩ := h
  refine e_scr q_0 rfl hjj2 hlj2 hS ?_
  exact e_virt q_0 rfl rfl (Nat.le_of_ble_eq_true rfl) rfl rfl (Nat.le_of_ble_eq_true rfl) rfl h
set_option maxHeartbeats 4000000 in
set_option maxRecDepth 20000 in
theorem g_0_187 {S : Nat × (Nat → Int32)} {d : Nat} {σ : Mem} {Q : MQ1} {x3 : Int32} {y0 : Int32} (hS : S.1 < 10000) (h : (∃ j1 : Nat, x3 + 1 = nI j1 ∧ j1 < S.1 ∧ (∃ j2 : Nat, x3 + 2 = nI j2 ∧ j2 < S.1 ∧ Ec S (d + 7) 135 [.inr (some 60), .inl (S.2 j1), .inl (S.2 j2)] σ (fun rv σ' => Ev S (d + 8) 0 199 [some (.inr (some m_scr)), some (.inr (some 0)), some (.inr (some 60)), some (.inl x3)] (rv ++ [.inl y0]) σ' Q)))) : Ev S (d + 8) 0 187 [some (.inr (some m_scr)), some (.inr (some 0)), some (.inr (some 60)), some (.inl x3)] [.inl y0] σ Q := by
  refine e_load q_0 rfl rfl rfl ?_
  refine e_load q_0 rfl rfl rfl ?_
  refine e_load q_0 rfl rfl rfl ?_
  refine e_push q_0 rfl ?_
  refine e_bin (r := x3 + 1) q_0 rfl rfl ?_
  obtain ⟨j1, hjj1, hlj1, h⟩ := h
  refine e_scr q_0 rfl hjj1 hlj1 hS ?_
  refine e_load q_0 rfl rfl rfl ?_
  refine e_load q_0 rfl rfl rfl ?_
  refine e_push q_0 rfl ?_
  refine e_bin (r := x3 + 2) q_0 rfl rfl ?_
  obtain ⟨j2, hjj2, hlj2, h⟩ := h
  refine e_scr q_0 rfl hjj2 hlj2 hS ?_
  exact e_virt q_0 rfl rfl (Nat.le_of_ble_eq_true rfl) rfl rfl (Nat.le_of_ble_eq_true rfl) rfl h
set_option maxHeartbeats 4000000 in
set_option maxRecDepth 20000 in
theorem g_0_214 {S : Nat × (Nat → Int32)} {d : Nat} {σ : Mem} {Q : MQ1} {x3 : Int32} {y0 : Int32} (hS : S.1 < 10000) (h : (∃ j1 : Nat, x3 + 1 = nI j1 ∧ j1 < S.1 ∧ (∃ j2 : Nat, x3 + 2 = nI j2 ∧ j2 < S.1 ∧ Ec S (d + 7) 136 [.inr (some 60), .inl (S.2 j1), .inl (S.2 j2)] σ (fun rv σ' => Ev S (d + 8) 0 226 [some (.inr (some m_scr)), some (.inr (some 0)), some (.inr (some 60)), some (.inl x3)] (rv ++ [.inl y0]) σ' Q)))) : Ev S (d + 8) 0 214 [some (.inr (some m_scr)), some (.inr (some 0)), some (.inr (some 60)), some (.inl x3)] [.inl y0] σ Q := by
  refine e_load q_0 rfl rfl rfl ?_
  refine e_load q_0 rfl rfl rfl ?_
  refine e_load q_0 rfl rfl rfl ?_
  refine e_push q_0 rfl ?_
  refine e_bin (r := x3 + 1) q_0 rfl rfl ?_
  obtain ⟨j1, hjj1, hlj1, h⟩ := h
  refine e_scr q_0 rfl hjj1 hlj1 hS ?_
  refine e_load q_0 rfl rfl rfl ?_
  refine e_load q_0 rfl rfl rfl ?_
  refine e_push q_0 rfl ?_
  refine e_bin (r := x3 + 2) q_0 rfl rfl ?_
  obtain ⟨j2, hjj2, hlj2, h⟩ := h
  refine e_scr q_0 rfl hjj2 hlj2 hS ?_
  exact e_virt q_0 rfl rfl (Nat.le_of_ble_eq_true rfl) rfl rfl (Nat.le_of_ble_eq_true rfl) rfl h
set_option maxHeartbeats 4000000 in
set_option maxRecDepth 20000 in
theorem g_0_241 {S : Nat × (Nat → Int32)} {d : Nat} {σ : Mem} {Q : MQ1} {x3 : Int32} {y0 : Int32} (hS : S.1 < 10000) (h : (∃ j1 : Nat, x3 + 1 = nI j1 ∧ j1 < S.1 ∧ (∃ j2 : Nat, x3 + 2 = nI j2 ∧ j2 < S.1 ∧ Ec S (d + 7) 137 [.inr (some 60), .inl (S.2 j1), .inl (S.2 j2)] σ (fun rv σ' => Ev S (d + 8) 0 253 [some (.inr (some m_scr)), some (.inr (some 0)), some (.inr (some 60)), some (.inl x3)] (rv ++ [.inl y0]) σ' Q)))) : Ev S (d + 8) 0 241 [some (.inr (some m_scr)), some (.inr (some 0)), some (.inr (some 60)), some (.inl x3)] [.inl y0] σ Q := by
  refine e_load q_0 rfl rfl rfl ?_
  refine e_load q_0 rfl rfl rfl ?_
  refine e_load q_0 rfl rfl rfl ?_
  refine e_push q_0 rfl ?_
  refine e_bin (r := x3 + 1) q_0 rfl rfl ?_
  obtain ⟨j1, hjj1, hlj1, h⟩ := h
  refine e_scr q_0 rfl hjj1 hlj1 hS ?_
  refine e_load q_0 rfl rfl rfl ?_
  refine e_load q_0 rfl rfl rfl ?_
  refine e_push q_0 rfl ?_
  refine e_bin (r := x3 + 2) q_0 rfl rfl ?_
  obtain ⟨j2, hjj2, hlj2, h⟩ := h
  refine e_scr q_0 rfl hjj2 hlj2 hS ?_
  exact e_virt q_0 rfl rfl (Nat.le_of_ble_eq_true rfl) rfl rfl (Nat.le_of_ble_eq_true rfl) rfl h
set_option maxHeartbeats 4000000 in
set_option maxRecDepth 20000 in
theorem g_0_272 {S : Nat × (Nat → Int32)} {d : Nat} {σ : Mem} {Q : MQ1} {x3 : Int32} {y0 : Int32} (hS : S.1 < 10000) (h : (∃ j1 : Nat, x3 + 1 = nI j1 ∧ j1 < S.1 ∧ (∃ j2 : Nat, x3 + 2 = nI j2 ∧ j2 < S.1 ∧ (((S.2 j2) = 0 → Ec S (d + 7) 138 [.inr (some 60), .inl (S.2 j1), .inl 0] σ (fun rv σ' => Ev S (d + 8) 0 288 [some (.inr (some m_scr)), some (.inr (some 0)), some (.inr (some 60)), some (.inl x3)] (rv ++ [.inl y0]) σ' Q)) ∧ (¬ ((S.2 j2) = 0) → Ec S (d + 7) 138 [.inr (some 60), .inl (S.2 j1), .inl 1] σ (fun rv σ' => Ev S (d + 8) 0 288 [some (.inr (some m_scr)), some (.inr (some 0)), some (.inr (some 60)), some (.inl x3)] (rv ++ [.inl y0]) σ' Q)))))) : Ev S (d + 8) 0 272 [some (.inr (some m_scr)), some (.inr (some 0)), some (.inr (some 60)), some (.inl x3)] [.inl y0] σ Q := by
  refine e_load q_0 rfl rfl rfl ?_
  refine e_load q_0 rfl rfl rfl ?_
  refine e_load q_0 rfl rfl rfl ?_
  refine e_push q_0 rfl ?_
  refine e_bin (r := x3 + 1) q_0 rfl rfl ?_
  obtain ⟨j1, hjj1, hlj1, h⟩ := h
  refine e_scr q_0 rfl hjj1 hlj1 hS ?_
  refine e_load q_0 rfl rfl rfl ?_
  refine e_load q_0 rfl rfl rfl ?_
  refine e_push q_0 rfl ?_
  refine e_bin (r := x3 + 2) q_0 rfl rfl ?_
  obtain ⟨j2, hjj2, hlj2, h⟩ := h
  refine e_scr q_0 rfl hjj2 hlj2 hS ?_
  refine e_if (P := (S.2 j2) = 0) q_0 rfl m_c0 (fun c => ?_) (fun c => ?_)
  · replace h := h.1 c
    refine e_push q_0 rfl ?_
    exact e_virt q_0 rfl rfl (Nat.le_of_ble_eq_true rfl) rfl rfl (Nat.le_of_ble_eq_true rfl) rfl h
  · replace h := h.2 c
    refine e_push q_0 rfl ?_
    refine e_goto q_0 rfl ?_
    exact e_virt q_0 rfl rfl (Nat.le_of_ble_eq_true rfl) rfl rfl (Nat.le_of_ble_eq_true rfl) rfl h
set_option maxHeartbeats 4000000 in
set_option maxRecDepth 20000 in
theorem g_0_298 {S : Nat × (Nat → Int32)} {d : Nat} {σ : Mem} {Q : MQ1} {x3 : Int32} {y0 : Int32} (hS : S.1 < 10000) (h : (∃ j1 : Nat, x3 + 1 = nI j1 ∧ j1 < S.1 ∧ Ec S (d + 7) 139 [.inr (some 60), .inl (S.2 j1)] σ (fun rv σ' => Ev S (d + 8) 0 305 [some (.inr (some m_scr)), some (.inr (some 0)), some (.inr (some 60)), some (.inl x3)] (rv ++ [.inl y0]) σ' Q))) : Ev S (d + 8) 0 298 [some (.inr (some m_scr)), some (.inr (some 0)), some (.inr (some 60)), some (.inl x3)] [.inl y0] σ Q := by
  refine e_load q_0 rfl rfl rfl ?_
  refine e_load q_0 rfl rfl rfl ?_
  refine e_load q_0 rfl rfl rfl ?_
  refine e_push q_0 rfl ?_
  refine e_bin (r := x3 + 1) q_0 rfl rfl ?_
  obtain ⟨j1, hjj1, hlj1, h⟩ := h
  refine e_scr q_0 rfl hjj1 hlj1 hS ?_
  exact e_virt q_0 rfl rfl (Nat.le_of_ble_eq_true rfl) rfl rfl (Nat.le_of_ble_eq_true rfl) rfl h
set_option maxHeartbeats 4000000 in
set_option maxRecDepth 20000 in
theorem g_0_325 {S : Nat × (Nat → Int32)} {d : Nat} {σ : Mem} {Q : MQ1} {x3 : Int32} {y0 : Int32} (hS : S.1 < 10000) (h : (∃ j1 : Nat, x3 + 1 = nI j1 ∧ j1 < S.1 ∧ (∃ j2 : Nat, x3 + 2 = nI j2 ∧ j2 < S.1 ∧ (∃ j3 : Nat, x3 + 3 = nI j3 ∧ j3 < S.1 ∧ Ec S (d + 7) 141 [.inr (some 60), .inl (S.2 j1), .inl (S.2 j2), .inl (S.2 j3)] σ (fun rv σ' => Ev S (d + 8) 0 342 [some (.inr (some m_scr)), some (.inr (some 0)), some (.inr (some 60)), some (.inl x3)] (rv ++ [.inl y0]) σ' Q))))) : Ev S (d + 8) 0 325 [some (.inr (some m_scr)), some (.inr (some 0)), some (.inr (some 60)), some (.inl x3)] [.inl y0] σ Q := by
  refine e_load q_0 rfl rfl rfl ?_
  refine e_load q_0 rfl rfl rfl ?_
  refine e_load q_0 rfl rfl rfl ?_
  refine e_push q_0 rfl ?_
  refine e_bin (r := x3 + 1) q_0 rfl rfl ?_
  obtain ⟨j1, hjj1, hlj1, h⟩ := h
  refine e_scr q_0 rfl hjj1 hlj1 hS ?_
  refine e_load q_0 rfl rfl rfl ?_
  refine e_load q_0 rfl rfl rfl ?_
  refine e_push q_0 rfl ?_
  refine e_bin (r := x3 + 2) q_0 rfl rfl ?_
  obtain ⟨j2, hjj2, hlj2, h⟩ := h
  refine e_scr q_0 rfl hjj2 hlj2 hS ?_
  refine e_load q_0 rfl rfl rfl ?_
  refine e_load q_0 rfl rfl rfl ?_
  refine e_push q_0 rfl ?_
  refine e_bin (r := x3 + 3) q_0 rfl rfl ?_
  obtain ⟨j3, hjj3, hlj3, h⟩ := h
  refine e_scr q_0 rfl hjj3 hlj3 hS ?_
  exact e_virt q_0 rfl rfl (Nat.le_of_ble_eq_true rfl) rfl rfl (Nat.le_of_ble_eq_true rfl) rfl h
set_option maxHeartbeats 4000000 in
set_option maxRecDepth 20000 in
theorem g_0_362 {S : Nat × (Nat → Int32)} {d : Nat} {σ : Mem} {Q : MQ1} {x3 : Int32} {y0 : Int32} (hS : S.1 < 10000) (h : (∃ j1 : Nat, x3 + 1 = nI j1 ∧ j1 < S.1 ∧ (∃ j2 : Nat, x3 + 2 = nI j2 ∧ j2 < S.1 ∧ (∃ j3 : Nat, x3 + 3 = nI j3 ∧ j3 < S.1 ∧ Ec S (d + 7) 142 [.inr (some 60), .inl (S.2 j1), .inl (S.2 j2), .inl (S.2 j3)] σ (fun rv σ' => Ev S (d + 8) 0 379 [some (.inr (some m_scr)), some (.inr (some 0)), some (.inr (some 60)), some (.inl x3)] (rv ++ [.inl y0]) σ' Q))))) : Ev S (d + 8) 0 362 [some (.inr (some m_scr)), some (.inr (some 0)), some (.inr (some 60)), some (.inl x3)] [.inl y0] σ Q := by
  refine e_load q_0 rfl rfl rfl ?_
  refine e_load q_0 rfl rfl rfl ?_
  refine e_load q_0 rfl rfl rfl ?_
  refine e_push q_0 rfl ?_
  refine e_bin (r := x3 + 1) q_0 rfl rfl ?_
  obtain ⟨j1, hjj1, hlj1, h⟩ := h
  refine e_scr q_0 rfl hjj1 hlj1 hS ?_
  refine e_load q_0 rfl rfl rfl ?_
  refine e_load q_0 rfl rfl rfl ?_
  refine e_push q_0 rfl ?_
  refine e_bin (r := x3 + 2) q_0 rfl rfl ?_
  obtain ⟨j2, hjj2, hlj2, h⟩ := h
  refine e_scr q_0 rfl hjj2 hlj2 hS ?_
  refine e_load q_0 rfl rfl rfl ?_
  refine e_load q_0 rfl rfl rfl ?_
  refine e_push q_0 rfl ?_
  refine e_bin (r := x3 + 3) q_0 rfl rfl ?_
  obtain ⟨j3, hjj3, hlj3, h⟩ := h
  refine e_scr q_0 rfl hjj3 hlj3 hS ?_
  exact e_virt q_0 rfl rfl (Nat.le_of_ble_eq_true rfl) rfl rfl (Nat.le_of_ble_eq_true rfl) rfl h
set_option maxHeartbeats 4000000 in
set_option maxRecDepth 20000 in
theorem g_0_409 {S : Nat × (Nat → Int32)} {d : Nat} {σ : Mem} {Q : MQ1} {x3 : Int32} {y0 : Int32} (hS : S.1 < 10000) (h : (∃ j1 : Nat, x3 + 1 = nI j1 ∧ j1 < S.1 ∧ (∃ j2 : Nat, x3 + 2 = nI j2 ∧ j2 < S.1 ∧ (∃ j3 : Nat, x3 + 3 = nI j3 ∧ j3 < S.1 ∧ (∃ j4 : Nat, x3 + 4 = nI j4 ∧ j4 < S.1 ∧ (∃ j5 : Nat, x3 + 5 = nI j5 ∧ j5 < S.1 ∧ Ec S (d + 7) 144 [.inr (some 60), .inl (S.2 j1), .inl (S.2 j2), .inl (S.2 j3), .inl (S.2 j4), .inl (S.2 j5)] σ (fun rv σ' => Ev S (d + 8) 0 436 [some (.inr (some m_scr)), some (.inr (some 0)), some (.inr (some 60)), some (.inl x3)] (rv ++ [.inl y0]) σ' Q))))))) : Ev S (d + 8) 0 409 [some (.inr (some m_scr)), some (.inr (some 0)), some (.inr (some 60)), some (.inl x3)] [.inl y0] σ Q := by
  refine e_load q_0 rfl rfl rfl ?_
  refine e_load q_0 rfl rfl rfl ?_
  refine e_load q_0 rfl rfl rfl ?_
  refine e_push q_0 rfl ?_
  refine e_bin (r := x3 + 1) q_0 rfl rfl ?_
  obtain ⟨j1, hjj1, hlj1, h⟩ := h
  refine e_scr q_0 rfl hjj1 hlj1 hS ?_
  refine e_load q_0 rfl rfl rfl ?_
  refine e_load q_0 rfl rfl rfl ?_
  refine e_push q_0 rfl ?_
  refine e_bin (r := x3 + 2) q_0 rfl rfl ?_
  obtain ⟨j2, hjj2, hlj2, h⟩ := h
  refine e_scr q_0 rfl hjj2 hlj2 hS ?_
  refine e_load q_0 rfl rfl rfl ?_
  refine e_load q_0 rfl rfl rfl ?_
  refine e_push q_0 rfl ?_
  refine e_bin (r := x3 + 3) q_0 rfl rfl ?_
  obtain ⟨j3, hjj3, hlj3, h⟩ := h
  refine e_scr q_0 rfl hjj3 hlj3 hS ?_
  refine e_load q_0 rfl rfl rfl ?_
  refine e_load q_0 rfl rfl rfl ?_
  refine e_push q_0 rfl ?_
  refine e_bin (r := x3 + 4) q_0 rfl rfl ?_
  obtain ⟨j4, hjj4, hlj4, h⟩ := h
  refine e_scr q_0 rfl hjj4 hlj4 hS ?_
  refine e_load q_0 rfl rfl rfl ?_
  refine e_load q_0 rfl rfl rfl ?_
  refine e_push q_0 rfl ?_
  refine e_bin (r := x3 + 5) q_0 rfl rfl ?_
  obtain ⟨j5, hjj5, hlj5, h⟩ := h
  refine e_scr q_0 rfl hjj5 hlj5 hS ?_
  exact e_virt q_0 rfl rfl (Nat.le_of_ble_eq_true rfl) rfl rfl (Nat.le_of_ble_eq_true rfl) rfl h
set_option maxHeartbeats 4000000 in
set_option maxRecDepth 20000 in
theorem g_0_446 {S : Nat × (Nat → Int32)} {d : Nat} {σ : Mem} {Q : MQ1} {x3 : Int32} {y0 : Int32} (hS : S.1 < 10000) (h : (∃ j1 : Nat, x3 + 1 = nI j1 ∧ j1 < S.1 ∧ Ec S (d + 7) 145 [.inr (some 60), .inl (S.2 j1)] σ (fun rv σ' => Ev S (d + 8) 0 453 [some (.inr (some m_scr)), some (.inr (some 0)), some (.inr (some 60)), some (.inl x3)] (rv ++ [.inl y0]) σ' Q))) : Ev S (d + 8) 0 446 [some (.inr (some m_scr)), some (.inr (some 0)), some (.inr (some 60)), some (.inl x3)] [.inl y0] σ Q := by
  refine e_load q_0 rfl rfl rfl ?_
  refine e_load q_0 rfl rfl rfl ?_
  refine e_load q_0 rfl rfl rfl ?_
  refine e_push q_0 rfl ?_
  refine e_bin (r := x3 + 1) q_0 rfl rfl ?_
  obtain ⟨j1, hjj1, hlj1, h⟩ := h
  refine e_scr q_0 rfl hjj1 hlj1 hS ?_
  exact e_virt q_0 rfl rfl (Nat.le_of_ble_eq_true rfl) rfl rfl (Nat.le_of_ble_eq_true rfl) rfl h
set_option maxHeartbeats 4000000 in
set_option maxRecDepth 20000 in
theorem g_0_468 {S : Nat × (Nat → Int32)} {d : Nat} {σ : Mem} {Q : MQ1} {x3 : Int32} {y0 : Int32} (hS : S.1 < 10000) (h : (∃ j1 : Nat, x3 + 1 = nI j1 ∧ j1 < S.1 ∧ (∃ j2 : Nat, x3 + 2 = nI j2 ∧ j2 < S.1 ∧ Ec S (d + 7) 147 [.inr (some 60), .inl (S.2 j1), .inl (S.2 j2)] σ (fun rv σ' => Ev S (d + 8) 0 480 [some (.inr (some m_scr)), some (.inr (some 0)), some (.inr (some 60)), some (.inl x3)] (rv ++ [.inl y0]) σ' Q)))) : Ev S (d + 8) 0 468 [some (.inr (some m_scr)), some (.inr (some 0)), some (.inr (some 60)), some (.inl x3)] [.inl y0] σ Q := by
  refine e_load q_0 rfl rfl rfl ?_
  refine e_load q_0 rfl rfl rfl ?_
  refine e_load q_0 rfl rfl rfl ?_
  refine e_push q_0 rfl ?_
  refine e_bin (r := x3 + 1) q_0 rfl rfl ?_
  obtain ⟨j1, hjj1, hlj1, h⟩ := h
  refine e_scr q_0 rfl hjj1 hlj1 hS ?_
  refine e_load q_0 rfl rfl rfl ?_
  refine e_load q_0 rfl rfl rfl ?_
  refine e_push q_0 rfl ?_
  refine e_bin (r := x3 + 2) q_0 rfl rfl ?_
  obtain ⟨j2, hjj2, hlj2, h⟩ := h
  refine e_scr q_0 rfl hjj2 hlj2 hS ?_
  exact e_virt q_0 rfl rfl (Nat.le_of_ble_eq_true rfl) rfl rfl (Nat.le_of_ble_eq_true rfl) rfl h
set_option maxHeartbeats 4000000 in
set_option maxRecDepth 20000 in
theorem g_0_495 {S : Nat × (Nat → Int32)} {d : Nat} {σ : Mem} {Q : MQ1} {x3 : Int32} {y0 : Int32} (hS : S.1 < 10000) (h : (∃ j1 : Nat, x3 + 1 = nI j1 ∧ j1 < S.1 ∧ (∃ j2 : Nat, x3 + 2 = nI j2 ∧ j2 < S.1 ∧ Ec S (d + 7) 148 [.inr (some 60), .inl (S.2 j1), .inl (S.2 j2)] σ (fun rv σ' => Ev S (d + 8) 0 507 [some (.inr (some m_scr)), some (.inr (some 0)), some (.inr (some 60)), some (.inl x3)] (rv ++ [.inl y0]) σ' Q)))) : Ev S (d + 8) 0 495 [some (.inr (some m_scr)), some (.inr (some 0)), some (.inr (some 60)), some (.inl x3)] [.inl y0] σ Q := by
  refine e_load q_0 rfl rfl rfl ?_
  refine e_load q_0 rfl rfl rfl ?_
  refine e_load q_0 rfl rfl rfl ?_
  refine e_push q_0 rfl ?_
  refine e_bin (r := x3 + 1) q_0 rfl rfl ?_
  obtain ⟨j1, hjj1, hlj1, h⟩ := h
  refine e_scr q_0 rfl hjj1 hlj1 hS ?_
  refine e_load q_0 rfl rfl rfl ?_
  refine e_load q_0 rfl rfl rfl ?_
  refine e_push q_0 rfl ?_
  refine e_bin (r := x3 + 2) q_0 rfl rfl ?_
  obtain ⟨j2, hjj2, hlj2, h⟩ := h
  refine e_scr q_0 rfl hjj2 hlj2 hS ?_
  exact e_virt q_0 rfl rfl (Nat.le_of_ble_eq_true rfl) rfl rfl (Nat.le_of_ble_eq_true rfl) rfl h
set_option maxHeartbeats 4000000 in
set_option maxRecDepth 20000 in
theorem g_0_512 {S : Nat × (Nat → Int32)} {d : Nat} {σ : Mem} {Q : MQ1} {x3 : Int32} {y0 : Int32} (hS : S.1 < 10000) (h : Ec S (d + 7) 152 [.inr (some 60)] σ (fun rv σ' => Ev S (d + 8) 0 514 [some (.inr (some m_scr)), some (.inr (some 0)), some (.inr (some 60)), some (.inl x3)] (rv ++ [.inl y0]) σ' Q)) : Ev S (d + 8) 0 512 [some (.inr (some m_scr)), some (.inr (some 0)), some (.inr (some 60)), some (.inl x3)] [.inl y0] σ Q := by
  refine e_load q_0 rfl rfl rfl ?_
  exact e_virt q_0 rfl rfl (Nat.le_of_ble_eq_true rfl) rfl rfl (Nat.le_of_ble_eq_true rfl) rfl h
set_option maxHeartbeats 4000000 in
set_option maxRecDepth 20000 in
theorem g_0_524 {S : Nat × (Nat → Int32)} {d : Nat} {σ : Mem} {Q : MQ1} {x3 : Int32} {y0 : Int32} (hS : S.1 < 10000) (h : (∃ j1 : Nat, x3 + 1 = nI j1 ∧ j1 < S.1 ∧ Ec S (d + 7) 153 [.inr (some 60), .inl (S.2 j1)] σ (fun rv σ' => Ev S (d + 8) 0 531 [some (.inr (some m_scr)), some (.inr (some 0)), some (.inr (some 60)), some (.inl x3)] (rv ++ [.inl y0]) σ' Q))) : Ev S (d + 8) 0 524 [some (.inr (some m_scr)), some (.inr (some 0)), some (.inr (some 60)), some (.inl x3)] [.inl y0] σ Q := by
  refine e_load q_0 rfl rfl rfl ?_
  refine e_load q_0 rfl rfl rfl ?_
  refine e_load q_0 rfl rfl rfl ?_
  refine e_push q_0 rfl ?_
  refine e_bin (r := x3 + 1) q_0 rfl rfl ?_
  obtain ⟨j1, hjj1, hlj1, h⟩ := h
  refine e_scr q_0 rfl hjj1 hlj1 hS ?_
  exact e_virt q_0 rfl rfl (Nat.le_of_ble_eq_true rfl) rfl rfl (Nat.le_of_ble_eq_true rfl) rfl h
set_option maxHeartbeats 4000000 in
set_option maxRecDepth 20000 in
theorem g_0_536 {S : Nat × (Nat → Int32)} {d : Nat} {σ : Mem} {Q : MQ1} {x3 : Int32} {y0 : Int32} (hS : S.1 < 10000) (h : Ec S (d + 7) 155 [.inr (some 60)] σ (fun rv σ' => Ev S (d + 8) 0 538 [some (.inr (some m_scr)), some (.inr (some 0)), some (.inr (some 60)), some (.inl x3)] (rv ++ [.inl y0]) σ' Q)) : Ev S (d + 8) 0 536 [some (.inr (some m_scr)), some (.inr (some 0)), some (.inr (some 60)), some (.inl x3)] [.inl y0] σ Q := by
  refine e_load q_0 rfl rfl rfl ?_
  exact e_virt q_0 rfl rfl (Nat.le_of_ble_eq_true rfl) rfl rfl (Nat.le_of_ble_eq_true rfl) rfl h
set_option maxHeartbeats 4000000 in
set_option maxRecDepth 20000 in
theorem g_0_552 {S : Nat × (Nat → Int32)} {d : Nat} {σ : Mem} {Q : MQ1} {x3 : Int32} {y0 : Int32} (hS : S.1 < 10000) (h : (∃ j1 : Nat, x3 + 1 = nI j1 ∧ j1 < S.1 ∧ (((S.2 j1) = 0 → Ec S (d + 7) 164 [.inr (some 60), .inl 0] σ (fun rv σ' => Ev S (d + 8) 0 563 [some (.inr (some m_scr)), some (.inr (some 0)), some (.inr (some 60)), some (.inl x3)] (rv ++ [.inl y0]) σ' Q)) ∧ (¬ ((S.2 j1) = 0) → Ec S (d + 7) 164 [.inr (some 60), .inl 1] σ (fun rv σ' => Ev S (d + 8) 0 563 [some (.inr (some m_scr)), some (.inr (some 0)), some (.inr (some 60)), some (.inl x3)] (rv ++ [.inl y0]) σ' Q))))) : Ev S (d + 8) 0 552 [some (.inr (some m_scr)), some (.inr (some 0)), some (.inr (some 60)), some (.inl x3)] [.inl y0] σ Q := by
  refine e_load q_0 rfl rfl rfl ?_
  refine e_load q_0 rfl rfl rfl ?_
  refine e_load q_0 rfl rfl rfl ?_
  refine e_push q_0 rfl ?_
  refine e_bin (r := x3 + 1) q_0 rfl rfl ?_
  obtain ⟨j1, hjj1, hlj1, h⟩ := h
  refine e_scr q_0 rfl hjj1 hlj1 hS ?_
  refine e_if (P := (S.2 j1) = 0) q_0 rfl m_c0 (fun c => ?_) (fun c => ?_)
  · replace h := h.1 c
    refine e_push q_0 rfl ?_
    exact e_virt q_0 rfl rfl (Nat.le_of_ble_eq_true rfl) rfl rfl (Nat.le_of_ble_eq_true rfl) rfl h
  · replace h := h.2 c
    refine e_push q_0 rfl ?_
    refine e_goto q_0 rfl ?_
    exact e_virt q_0 rfl rfl (Nat.le_of_ble_eq_true rfl) rfl rfl (Nat.le_of_ble_eq_true rfl) rfl h
set_option maxHeartbeats 4000000 in
set_option maxRecDepth 20000 in
theorem g_0_568 {S : Nat × (Nat → Int32)} {d : Nat} {σ : Mem} {Q : MQ1} {x3 : Int32} {y0 : Int32} (hS : S.1 < 10000) (h : Ec S (d + 7) 165 [.inr (some 60)] σ (fun rv σ' => Ev S (d + 8) 0 570 [some (.inr (some m_scr)), some (.inr (some 0)), some (.inr (some 60)), some (.inl x3)] (rv ++ [.inl y0]) σ' Q)) : Ev S (d + 8) 0 568 [some (.inr (some m_scr)), some (.inr (some 0)), some (.inr (some 60)), some (.inl x3)] [.inl y0] σ Q := by
  refine e_load q_0 rfl rfl rfl ?_
  exact e_virt q_0 rfl rfl (Nat.le_of_ble_eq_true rfl) rfl rfl (Nat.le_of_ble_eq_true rfl) rfl h
set_option maxHeartbeats 4000000 in
set_option maxRecDepth 20000 in
theorem g_0_584 {S : Nat × (Nat → Int32)} {d : Nat} {σ : Mem} {Q : MQ1} {x3 : Int32} {y0 : Int32} (hS : S.1 < 10000) (h : (∃ j1 : Nat, x3 + 1 = nI j1 ∧ j1 < S.1 ∧ (((S.2 j1) = 0 → Ec S (d + 7) 166 [.inr (some 60), .inl 0] σ (fun rv σ' => Ev S (d + 8) 0 595 [some (.inr (some m_scr)), some (.inr (some 0)), some (.inr (some 60)), some (.inl x3)] (rv ++ [.inl y0]) σ' Q)) ∧ (¬ ((S.2 j1) = 0) → Ec S (d + 7) 166 [.inr (some 60), .inl 1] σ (fun rv σ' => Ev S (d + 8) 0 595 [some (.inr (some m_scr)), some (.inr (some 0)), some (.inr (some 60)), some (.inl x3)] (rv ++ [.inl y0]) σ' Q))))) : Ev S (d + 8) 0 584 [some (.inr (some m_scr)), some (.inr (some 0)), some (.inr (some 60)), some (.inl x3)] [.inl y0] σ Q := by
  refine e_load q_0 rfl rfl rfl ?_
  refine e_load q_0 rfl rfl rfl ?_
  refine e_load q_0 rfl rfl rfl ?_
  refine e_push q_0 rfl ?_
  refine e_bin (r := x3 + 1) q_0 rfl rfl ?_
  obtain ⟨j1, hjj1, hlj1, h⟩ := h
  refine e_scr q_0 rfl hjj1 hlj1 hS ?_
  refine e_if (P := (S.2 j1) = 0) q_0 rfl m_c0 (fun c => ?_) (fun c => ?_)
  · replace h := h.1 c
    refine e_push q_0 rfl ?_
    exact e_virt q_0 rfl rfl (Nat.le_of_ble_eq_true rfl) rfl rfl (Nat.le_of_ble_eq_true rfl) rfl h
  · replace h := h.2 c
    refine e_push q_0 rfl ?_
    refine e_goto q_0 rfl ?_
    exact e_virt q_0 rfl rfl (Nat.le_of_ble_eq_true rfl) rfl rfl (Nat.le_of_ble_eq_true rfl) rfl h
set_option maxHeartbeats 4000000 in
set_option maxRecDepth 20000 in
theorem g_0_614 {S : Nat × (Nat → Int32)} {d : Nat} {σ : Mem} {Q : MQ1} {x3 : Int32} {y0 : Int32} (hS : S.1 < 10000) (h : (∃ j1 : Nat, x3 + 1 = nI j1 ∧ j1 < S.1 ∧ (∃ j2 : Nat, x3 + 2 = nI j2 ∧ j2 < S.1 ∧ (((S.2 j2) = 0 → Ec S (d + 7) 167 [.inr (some 60), .inl (S.2 j1), .inl 0] σ (fun rv σ' => Ev S (d + 8) 0 630 [some (.inr (some m_scr)), some (.inr (some 0)), some (.inr (some 60)), some (.inl x3)] (rv ++ [.inl y0]) σ' Q)) ∧ (¬ ((S.2 j2) = 0) → Ec S (d + 7) 167 [.inr (some 60), .inl (S.2 j1), .inl 1] σ (fun rv σ' => Ev S (d + 8) 0 630 [some (.inr (some m_scr)), some (.inr (some 0)), some (.inr (some 60)), some (.inl x3)] (rv ++ [.inl y0]) σ' Q)))))) : Ev S (d + 8) 0 614 [some (.inr (some m_scr)), some (.inr (some 0)), some (.inr (some 60)), some (.inl x3)] [.inl y0] σ Q := by
  refine e_load q_0 rfl rfl rfl ?_
  refine e_load q_0 rfl rfl rfl ?_
  refine e_load q_0 rfl rfl rfl ?_
  refine e_push q_0 rfl ?_
  refine e_bin (r := x3 + 1) q_0 rfl rfl ?_
  obtain ⟨j1, hjj1, hlj1, h⟩ := h
  refine e_scr q_0 rfl hjj1 hlj1 hS ?_
  refine e_load q_0 rfl rfl rfl ?_
  refine e_load q_0 rfl rfl rfl ?_
  refine e_push q_0 rfl ?_
  refine e_bin (r := x3 + 2) q_0 rfl rfl ?_
  obtain ⟨j2, hjj2, hlj2, h⟩ := h
  refine e_scr q_0 rfl hjj2 hlj2 hS ?_
  refine e_if (P := (S.2 j2) = 0) q_0 rfl m_c0 (fun c => ?_) (fun c => ?_)
  · replace h := h.1 c
    refine e_push q_0 rfl ?_
    exact e_virt q_0 rfl rfl (Nat.le_of_ble_eq_true rfl) rfl rfl (Nat.le_of_ble_eq_true rfl) rfl h
  · replace h := h.2 c
    refine e_push q_0 rfl ?_
    refine e_goto q_0 rfl ?_
    exact e_virt q_0 rfl rfl (Nat.le_of_ble_eq_true rfl) rfl rfl (Nat.le_of_ble_eq_true rfl) rfl h
set_option maxHeartbeats 4000000 in
set_option maxRecDepth 20000 in
theorem g_0_644 {S : Nat × (Nat → Int32)} {d : Nat} {σ : Mem} {Q : MQ1} {x3 : Int32} {y0 : Int32} (hS : S.1 < 10000) (h : (∃ j1 : Nat, x3 + 1 = nI j1 ∧ j1 < S.1 ∧ (((S.2 j1) = 0 → Ec S (d + 7) 169 [.inr (some 60), .inl 0] σ (fun rv σ' => Ev S (d + 8) 0 655 [some (.inr (some m_scr)), some (.inr (some 0)), some (.inr (some 60)), some (.inl x3)] (rv ++ [.inl y0]) σ' Q)) ∧ (¬ ((S.2 j1) = 0) → Ec S (d + 7) 169 [.inr (some 60), .inl 1] σ (fun rv σ' => Ev S (d + 8) 0 655 [some (.inr (some m_scr)), some (.inr (some 0)), some (.inr (some 60)), some (.inl x3)] (rv ++ [.inl y0]) σ' Q))))) : Ev S (d + 8) 0 644 [some (.inr (some m_scr)), some (.inr (some 0)), some (.inr (some 60)), some (.inl x3)] [.inl y0] σ Q := by
  refine e_load q_0 rfl rfl rfl ?_
  refine e_load q_0 rfl rfl rfl ?_
  refine e_load q_0 rfl rfl rfl ?_
  refine e_push q_0 rfl ?_
  refine e_bin (r := x3 + 1) q_0 rfl rfl ?_
  obtain ⟨j1, hjj1, hlj1, h⟩ := h
  refine e_scr q_0 rfl hjj1 hlj1 hS ?_
  refine e_if (P := (S.2 j1) = 0) q_0 rfl m_c0 (fun c => ?_) (fun c => ?_)
  · replace h := h.1 c
    refine e_push q_0 rfl ?_
    exact e_virt q_0 rfl rfl (Nat.le_of_ble_eq_true rfl) rfl rfl (Nat.le_of_ble_eq_true rfl) rfl h
  · replace h := h.2 c
    refine e_push q_0 rfl ?_
    refine e_goto q_0 rfl ?_
    exact e_virt q_0 rfl rfl (Nat.le_of_ble_eq_true rfl) rfl rfl (Nat.le_of_ble_eq_true rfl) rfl h
set_option maxHeartbeats 4000000 in
set_option maxRecDepth 20000 in
theorem g_0_665 {S : Nat × (Nat → Int32)} {d : Nat} {σ : Mem} {Q : MQ1} {x3 : Int32} {y0 : Int32} (hS : S.1 < 10000) (h : (∃ j1 : Nat, x3 + 1 = nI j1 ∧ j1 < S.1 ∧ Ec S (d + 7) 170 [.inr (some 60), .inl (S.2 j1)] σ (fun rv σ' => Ev S (d + 8) 0 672 [some (.inr (some m_scr)), some (.inr (some 0)), some (.inr (some 60)), some (.inl x3)] (rv ++ [.inl y0]) σ' Q))) : Ev S (d + 8) 0 665 [some (.inr (some m_scr)), some (.inr (some 0)), some (.inr (some 60)), some (.inl x3)] [.inl y0] σ Q := by
  refine e_load q_0 rfl rfl rfl ?_
  refine e_load q_0 rfl rfl rfl ?_
  refine e_load q_0 rfl rfl rfl ?_
  refine e_push q_0 rfl ?_
  refine e_bin (r := x3 + 1) q_0 rfl rfl ?_
  obtain ⟨j1, hjj1, hlj1, h⟩ := h
  refine e_scr q_0 rfl hjj1 hlj1 hS ?_
  exact e_virt q_0 rfl rfl (Nat.le_of_ble_eq_true rfl) rfl rfl (Nat.le_of_ble_eq_true rfl) rfl h
set_option maxHeartbeats 4000000 in
set_option maxRecDepth 20000 in
theorem g_0_687 {S : Nat × (Nat → Int32)} {d : Nat} {σ : Mem} {Q : MQ1} {x3 : Int32} {y0 : Int32} (hS : S.1 < 10000) (h : (∃ j1 : Nat, x3 + 1 = nI j1 ∧ j1 < S.1 ∧ (∃ j2 : Nat, x3 + 2 = nI j2 ∧ j2 < S.1 ∧ Ec S (d + 7) 171 [.inr (some 60), .inl (S.2 j1), .inl (S.2 j2)] σ (fun rv σ' => Ev S (d + 8) 0 699 [some (.inr (some m_scr)), some (.inr (some 0)), some (.inr (some 60)), some (.inl x3)] (rv ++ [.inl y0]) σ' Q)))) : Ev S (d + 8) 0 687 [some (.inr (some m_scr)), some (.inr (some 0)), some (.inr (some 60)), some (.inl x3)] [.inl y0] σ Q := by
  refine e_load q_0 rfl rfl rfl ?_
  refine e_load q_0 rfl rfl rfl ?_
  refine e_load q_0 rfl rfl rfl ?_
  refine e_push q_0 rfl ?_
  refine e_bin (r := x3 + 1) q_0 rfl rfl ?_
  obtain ⟨j1, hjj1, hlj1, h⟩ := h
  refine e_scr q_0 rfl hjj1 hlj1 hS ?_
  refine e_load q_0 rfl rfl rfl ?_
  refine e_load q_0 rfl rfl rfl ?_
  refine e_push q_0 rfl ?_
  refine e_bin (r := x3 + 2) q_0 rfl rfl ?_
  obtain ⟨j2, hjj2, hlj2, h⟩ := h
  refine e_scr q_0 rfl hjj2 hlj2 hS ?_
  exact e_virt q_0 rfl rfl (Nat.le_of_ble_eq_true rfl) rfl rfl (Nat.le_of_ble_eq_true rfl) rfl h
set_option maxHeartbeats 4000000 in
set_option maxRecDepth 20000 in
theorem g_0_714 {S : Nat × (Nat → Int32)} {d : Nat} {σ : Mem} {Q : MQ1} {x3 : Int32} {y0 : Int32} (hS : S.1 < 10000) (h : (∃ j1 : Nat, x3 + 1 = nI j1 ∧ j1 < S.1 ∧ (∃ j2 : Nat, x3 + 2 = nI j2 ∧ j2 < S.1 ∧ Ec S (d + 7) 173 [.inr (some 60), .inl (S.2 j1), .inl (S.2 j2)] σ (fun rv σ' => Ev S (d + 8) 0 726 [some (.inr (some m_scr)), some (.inr (some 0)), some (.inr (some 60)), some (.inl x3)] (rv ++ [.inl y0]) σ' Q)))) : Ev S (d + 8) 0 714 [some (.inr (some m_scr)), some (.inr (some 0)), some (.inr (some 60)), some (.inl x3)] [.inl y0] σ Q := by
  refine e_load q_0 rfl rfl rfl ?_
  refine e_load q_0 rfl rfl rfl ?_
  refine e_load q_0 rfl rfl rfl ?_
  refine e_push q_0 rfl ?_
  refine e_bin (r := x3 + 1) q_0 rfl rfl ?_
  obtain ⟨j1, hjj1, hlj1, h⟩ := h
  refine e_scr q_0 rfl hjj1 hlj1 hS ?_
  refine e_load q_0 rfl rfl rfl ?_
  refine e_load q_0 rfl rfl rfl ?_
  refine e_push q_0 rfl ?_
  refine e_bin (r := x3 + 2) q_0 rfl rfl ?_
  obtain ⟨j2, hjj2, hlj2, h⟩ := h
  refine e_scr q_0 rfl hjj2 hlj2 hS ?_
  exact e_virt q_0 rfl rfl (Nat.le_of_ble_eq_true rfl) rfl rfl (Nat.le_of_ble_eq_true rfl) rfl h
set_option maxHeartbeats 4000000 in
set_option maxRecDepth 20000 in
theorem g_0_736 {S : Nat × (Nat → Int32)} {d : Nat} {σ : Mem} {Q : MQ1} {x3 : Int32} {y0 : Int32} (hS : S.1 < 10000) (h : (∃ j1 : Nat, x3 + 1 = nI j1 ∧ j1 < S.1 ∧ Ec S (d + 7) 174 [.inr (some 60), .inl (S.2 j1)] σ (fun rv σ' => Ev S (d + 8) 0 743 [some (.inr (some m_scr)), some (.inr (some 0)), some (.inr (some 60)), some (.inl x3)] (rv ++ [.inl y0]) σ' Q))) : Ev S (d + 8) 0 736 [some (.inr (some m_scr)), some (.inr (some 0)), some (.inr (some 60)), some (.inl x3)] [.inl y0] σ Q := by
  refine e_load q_0 rfl rfl rfl ?_
  refine e_load q_0 rfl rfl rfl ?_
  refine e_load q_0 rfl rfl rfl ?_
  refine e_push q_0 rfl ?_
  refine e_bin (r := x3 + 1) q_0 rfl rfl ?_
  obtain ⟨j1, hjj1, hlj1, h⟩ := h
  refine e_scr q_0 rfl hjj1 hlj1 hS ?_
  exact e_virt q_0 rfl rfl (Nat.le_of_ble_eq_true rfl) rfl rfl (Nat.le_of_ble_eq_true rfl) rfl h
set_option maxHeartbeats 4000000 in
set_option maxRecDepth 20000 in
theorem g_0_748 {S : Nat × (Nat → Int32)} {d : Nat} {σ : Mem} {Q : MQ1} {x3 : Int32} {y0 : Int32} (hS : S.1 < 10000) (h : Ec S (d + 7) 127 [.inr (some 60)] σ (fun rv σ' => Ev S (d + 8) 0 750 [some (.inr (some m_scr)), some (.inr (some 0)), some (.inr (some 60)), some (.inl x3)] (rv ++ [.inl y0]) σ' Q)) : Ev S (d + 8) 0 748 [some (.inr (some m_scr)), some (.inr (some 0)), some (.inr (some 60)), some (.inl x3)] [.inl y0] σ Q := by
  refine e_load q_0 rfl rfl rfl ?_
  exact e_virt q_0 rfl rfl (Nat.le_of_ble_eq_true rfl) rfl rfl (Nat.le_of_ble_eq_true rfl) rfl h
set_option maxHeartbeats 4000000 in
set_option maxRecDepth 20000 in
theorem g_0_760 {S : Nat × (Nat → Int32)} {d : Nat} {σ : Mem} {Q : MQ1} {x3 : Int32} {y0 : Int32} (hS : S.1 < 10000) (h : (∃ j1 : Nat, x3 + 1 = nI j1 ∧ j1 < S.1 ∧ Ec S (d + 7) 175 [.inr (some 60), .inl (S.2 j1)] σ (fun rv σ' => Ev S (d + 8) 0 767 [some (.inr (some m_scr)), some (.inr (some 0)), some (.inr (some 60)), some (.inl x3)] (rv ++ [.inl y0]) σ' Q))) : Ev S (d + 8) 0 760 [some (.inr (some m_scr)), some (.inr (some 0)), some (.inr (some 60)), some (.inl x3)] [.inl y0] σ Q := by
  refine e_load q_0 rfl rfl rfl ?_
  refine e_load q_0 rfl rfl rfl ?_
  refine e_load q_0 rfl rfl rfl ?_
  refine e_push q_0 rfl ?_
  refine e_bin (r := x3 + 1) q_0 rfl rfl ?_
  obtain ⟨j1, hjj1, hlj1, h⟩ := h
  refine e_scr q_0 rfl hjj1 hlj1 hS ?_
  exact e_virt q_0 rfl rfl (Nat.le_of_ble_eq_true rfl) rfl rfl (Nat.le_of_ble_eq_true rfl) rfl h
set_option maxHeartbeats 4000000 in
set_option maxRecDepth 20000 in
theorem g_0_46 {S : Nat × (Nat → Int32)} {d : Nat} {σ : Mem} {Q : MQ1} {x3 : Int32} {y0 : Int32} {y1 : Int32} (hS : S.1 < 10000) (h : ((y0 = y1 → Ev S (d + 8) 0 10 [some (.inr (some m_scr)), some (.inr (some 0)), some (.inr (some 60)), some (.inl (x3 + 6))] [] σ Q) ∧ (¬ (y0 = y1) → Q [.inl 0] σ))) : Ev S (d + 8) 0 46 [some (.inr (some m_scr)), some (.inr (some 0)), some (.inr (some 60)), some (.inl x3)] [.inl y1, .inl y0] σ Q := by
  refine e_icmp (P := y0 = y1) q_0 rfl m_c0 (fun c => ?_) (fun c => ?_)
  · replace h := h.1 c
    refine e_iinc (ls' := [some (.inr (some m_scr)), some (.inr (some 0)), some (.inr (some 60)), some (.inl (x3 + 6))]) q_0 rfl rfl rfl ?_
    refine e_goto q_0 rfl ?_
    exact h
  · replace h := h.2 c
    refine e_push q_0 rfl ?_
    exact e_zreturn q_0 rfl rfl (by decide) h
set_option maxHeartbeats 4000000 in
set_option maxRecDepth 20000 in
theorem g_0_73 {S : Nat × (Nat → Int32)} {d : Nat} {σ : Mem} {Q : MQ1} {x3 : Int32} {y0 : Int32} {y1 : Int32} (hS : S.1 < 10000) (h : ((y0 = y1 → Ev S (d + 8) 0 10 [some (.inr (some m_scr)), some (.inr (some 0)), some (.inr (some 60)), some (.inl (x3 + 6))] [] σ Q) ∧ (¬ (y0 = y1) → Q [.inl 0] σ))) : Ev S (d + 8) 0 73 [some (.inr (some m_scr)), some (.inr (some 0)), some (.inr (some 60)), some (.inl x3)] [.inl y1, .inl y0] σ Q := by
  refine e_icmp (P := y0 = y1) q_0 rfl m_c0 (fun c => ?_) (fun c => ?_)
  · replace h := h.1 c
    refine e_iinc (ls' := [some (.inr (some m_scr)), some (.inr (some 0)), some (.inr (some 60)), some (.inl (x3 + 6))]) q_0 rfl rfl rfl ?_
    refine e_goto q_0 rfl ?_
    exact h
  · replace h := h.2 c
    refine e_push q_0 rfl ?_
    exact e_zreturn q_0 rfl rfl (by decide) h
set_option maxHeartbeats 4000000 in
set_option maxRecDepth 20000 in
theorem g_0_118 {S : Nat × (Nat → Int32)} {d : Nat} {σ : Mem} {Q : MQ1} {x3 : Int32} {y0 : Int32} {y1 : Int32} (hS : S.1 < 10000) (h : ((y0 = y1 → Ev S (d + 8) 0 10 [some (.inr (some m_scr)), some (.inr (some 0)), some (.inr (some 60)), some (.inl (x3 + 6))] [] σ Q) ∧ (¬ (y0 = y1) → Q [.inl 0] σ))) : Ev S (d + 8) 0 118 [some (.inr (some m_scr)), some (.inr (some 0)), some (.inr (some 60)), some (.inl x3)] [.inl y1, .inl y0] σ Q := by
  refine e_icmp (P := y0 = y1) q_0 rfl m_c0 (fun c => ?_) (fun c => ?_)
  · replace h := h.1 c
    refine e_iinc (ls' := [some (.inr (some m_scr)), some (.inr (some 0)), some (.inr (some 60)), some (.inl (x3 + 6))]) q_0 rfl rfl rfl ?_
    refine e_goto q_0 rfl ?_
    exact h
  · replace h := h.2 c
    refine e_push q_0 rfl ?_
    exact e_zreturn q_0 rfl rfl (by decide) h
set_option maxHeartbeats 4000000 in
set_option maxRecDepth 20000 in
theorem g_0_145 {S : Nat × (Nat → Int32)} {d : Nat} {σ : Mem} {Q : MQ1} {x3 : Int32} {y0 : Int32} {y1 : Int32} (hS : S.1 < 10000) (h : ((y0 = y1 → Ev S (d + 8) 0 10 [some (.inr (some m_scr)), some (.inr (some 0)), some (.inr (some 60)), some (.inl (x3 + 6))] [] σ Q) ∧ (¬ (y0 = y1) → Q [.inl 0] σ))) : Ev S (d + 8) 0 145 [some (.inr (some m_scr)), some (.inr (some 0)), some (.inr (some 60)), some (.inl x3)] [.inl y1, .inl y0] σ Q := by
  refine e_icmp (P := y0 = y1) q_0 rfl m_c0 (fun c => ?_) (fun c => ?_)
  · replace h := h.1 c
    refine e_iinc (ls' := [some (.inr (some m_scr)), some (.inr (some 0)), some (.inr (some 60)), some (.inl (x3 + 6))]) q_0 rfl rfl rfl ?_
    refine e_goto q_0 rfl ?_
    exact h
  · replace h := h.2 c
    refine e_push q_0 rfl ?_
    exact e_zreturn q_0 rfl rfl (by decide) h
set_option maxHeartbeats 4000000 in
set_option maxRecDepth 20000 in
theorem g_0_172 {S : Nat × (Nat → Int32)} {d : Nat} {σ : Mem} {Q : MQ1} {x3 : Int32} {y0 : Int32} {y1 : Int32} (hS : S.1 < 10000) (h : ((y0 = y1 → Ev S (d + 8) 0 10 [some (.inr (some m_scr)), some (.inr (some 0)), some (.inr (some 60)), some (.inl (x3 + 6))] [] σ Q) ∧ (¬ (y0 = y1) → Q [.inl 0] σ))) : Ev S (d + 8) 0 172 [some (.inr (some m_scr)), some (.inr (some 0)), some (.inr (some 60)), some (.inl x3)] [.inl y1, .inl y0] σ Q := by
  refine e_icmp (P := y0 = y1) q_0 rfl m_c0 (fun c => ?_) (fun c => ?_)
  · replace h := h.1 c
    refine e_iinc (ls' := [some (.inr (some m_scr)), some (.inr (some 0)), some (.inr (some 60)), some (.inl (x3 + 6))]) q_0 rfl rfl rfl ?_
    refine e_goto q_0 rfl ?_
    exact h
  · replace h := h.2 c
    refine e_push q_0 rfl ?_
    exact e_zreturn q_0 rfl rfl (by decide) h
set_option maxHeartbeats 4000000 in
set_option maxRecDepth 20000 in
theorem g_0_199 {S : Nat × (Nat → Int32)} {d : Nat} {σ : Mem} {Q : MQ1} {x3 : Int32} {y0 : Int32} {y1 : Int32} (hS : S.1 < 10000) (h : ((y0 = y1 → Ev S (d + 8) 0 10 [some (.inr (some m_scr)), some (.inr (some 0)), some (.inr (some 60)), some (.inl (x3 + 6))] [] σ Q) ∧ (¬ (y0 = y1) → Q [.inl 0] σ))) : Ev S (d + 8) 0 199 [some (.inr (some m_scr)), some (.inr (some 0)), some (.inr (some 60)), some (.inl x3)] [.inl y1, .inl y0] σ Q := by
  refine e_icmp (P := y0 = y1) q_0 rfl m_c0 (fun c => ?_) (fun c => ?_)
  · replace h := h.1 c
    refine e_iinc (ls' := [some (.inr (some m_scr)), some (.inr (some 0)), some (.inr (some 60)), some (.inl (x3 + 6))]) q_0 rfl rfl rfl ?_
    refine e_goto q_0 rfl ?_
    exact h
  · replace h := h.2 c
    refine e_push q_0 rfl ?_
    exact e_zreturn q_0 rfl rfl (by decide) h
set_option maxHeartbeats 4000000 in
set_option maxRecDepth 20000 in
theorem g_0_226 {S : Nat × (Nat → Int32)} {d : Nat} {σ : Mem} {Q : MQ1} {x3 : Int32} {y0 : Int32} {y1 : Int32} (hS : S.1 < 10000) (h : ((y0 = y1 → Ev S (d + 8) 0 10 [some (.inr (some m_scr)), some (.inr (some 0)), some (.inr (some 60)), some (.inl (x3 + 6))] [] σ Q) ∧ (¬ (y0 = y1) → Q [.inl 0] σ))) : Ev S (d + 8) 0 226 [some (.inr (some m_scr)), some (.inr (some 0)), some (.inr (some 60)), some (.inl x3)] [.inl y1, .inl y0] σ Q := by
  refine e_icmp (P := y0 = y1) q_0 rfl m_c0 (fun c => ?_) (fun c => ?_)
  · replace h := h.1 c
    refine e_iinc (ls' := [some (.inr (some m_scr)), some (.inr (some 0)), some (.inr (some 60)), some (.inl (x3 + 6))]) q_0 rfl rfl rfl ?_
    refine e_goto q_0 rfl ?_
    exact h
  · replace h := h.2 c
    refine e_push q_0 rfl ?_
    exact e_zreturn q_0 rfl rfl (by decide) h
set_option maxHeartbeats 4000000 in
set_option maxRecDepth 20000 in
theorem g_0_253 {S : Nat × (Nat → Int32)} {d : Nat} {σ : Mem} {Q : MQ1} {x3 : Int32} {y0 : Int32} {y1 : Int32} (hS : S.1 < 10000) (h : ((y0 = y1 → Ev S (d + 8) 0 10 [some (.inr (some m_scr)), some (.inr (some 0)), some (.inr (some 60)), some (.inl (x3 + 6))] [] σ Q) ∧ (¬ (y0 = y1) → Q [.inl 0] σ))) : Ev S (d + 8) 0 253 [some (.inr (some m_scr)), some (.inr (some 0)), some (.inr (some 60)), some (.inl x3)] [.inl y1, .inl y0] σ Q := by
  refine e_icmp (P := y0 = y1) q_0 rfl m_c0 (fun c => ?_) (fun c => ?_)
  · replace h := h.1 c
    refine e_iinc (ls' := [some (.inr (some m_scr)), some (.inr (some 0)), some (.inr (some 60)), some (.inl (x3 + 6))]) q_0 rfl rfl rfl ?_
    refine e_goto q_0 rfl ?_
    exact h
  · replace h := h.2 c
    refine e_push q_0 rfl ?_
    exact e_zreturn q_0 rfl rfl (by decide) h
set_option maxHeartbeats 4000000 in
set_option maxRecDepth 20000 in
theorem g_0_288 {S : Nat × (Nat → Int32)} {d : Nat} {σ : Mem} {Q : MQ1} {x3 : Int32} {y0 : Int32} {y1 : Int32} (hS : S.1 < 10000) (h : ((y0 = y1 → Ev S (d + 8) 0 10 [some (.inr (some m_scr)), some (.inr (some 0)), some (.inr (some 60)), some (.inl (x3 + 6))] [] σ Q) ∧ (¬ (y0 = y1) → Q [.inl 0] σ))) : Ev S (d + 8) 0 288 [some (.inr (some m_scr)), some (.inr (some 0)), some (.inr (some 60)), some (.inl x3)] [.inl y1, .inl y0] σ Q := by
  refine e_icmp (P := y0 = y1) q_0 rfl m_c0 (fun c => ?_) (fun c => ?_)
  · replace h := h.1 c
    refine e_iinc (ls' := [some (.inr (some m_scr)), some (.inr (some 0)), some (.inr (some 60)), some (.inl (x3 + 6))]) q_0 rfl rfl rfl ?_
    refine e_goto q_0 rfl ?_
    exact h
  · replace h := h.2 c
    refine e_push q_0 rfl ?_
    exact e_zreturn q_0 rfl rfl (by decide) h
set_option maxHeartbeats 4000000 in
set_option maxRecDepth 20000 in
theorem g_0_305 {S : Nat × (Nat → Int32)} {d : Nat} {σ : Mem} {Q : MQ1} {x3 : Int32} {y0 : Int32} {y1 : Int32} (hS : S.1 < 10000) (h : ((y0 = y1 → Ev S (d + 8) 0 10 [some (.inr (some m_scr)), some (.inr (some 0)), some (.inr (some 60)), some (.inl (x3 + 6))] [] σ Q) ∧ (¬ (y0 = y1) → Q [.inl 0] σ))) : Ev S (d + 8) 0 305 [some (.inr (some m_scr)), some (.inr (some 0)), some (.inr (some 60)), some (.inl x3)] [.inl y1, .inl y0] σ Q := by
  refine e_icmp (P := y0 = y1) q_0 rfl m_c0 (fun c => ?_) (fun c => ?_)
  · replace h := h.1 c
    refine e_iinc (ls' := [some (.inr (some m_scr)), some (.inr (some 0)), some (.inr (some 60)), some (.inl (x3 + 6))]) q_0 rfl rfl rfl ?_
    refine e_goto q_0 rfl ?_
    exact h
  · replace h := h.2 c
    refine e_push q_0 rfl ?_
    exact e_zreturn q_0 rfl rfl (by decide) h
set_option maxHeartbeats 4000000 in
set_option maxRecDepth 20000 in
theorem g_0_342 {S : Nat × (Nat → Int32)} {d : Nat} {σ : Mem} {Q : MQ1} {x3 : Int32} {y0 : Int32} {y1 : Int32} (hS : S.1 < 10000) (h : ((y0 = y1 → Ev S (d + 8) 0 10 [some (.inr (some m_scr)), some (.inr (some 0)), some (.inr (some 60)), some (.inl (x3 + 6))] [] σ Q) ∧ (¬ (y0 = y1) → Q [.inl 0] σ))) : Ev S (d + 8) 0 342 [some (.inr (some m_scr)), some (.inr (some 0)), some (.inr (some 60)), some (.inl x3)] [.inl y1, .inl y0] σ Q := by
  refine e_icmp (P := y0 = y1) q_0 rfl m_c0 (fun c => ?_) (fun c => ?_)
  · replace h := h.1 c
    refine e_iinc (ls' := [some (.inr (some m_scr)), some (.inr (some 0)), some (.inr (some 60)), some (.inl (x3 + 6))]) q_0 rfl rfl rfl ?_
    refine e_goto q_0 rfl ?_
    exact h
  · replace h := h.2 c
    refine e_push q_0 rfl ?_
    exact e_zreturn q_0 rfl rfl (by decide) h
set_option maxHeartbeats 4000000 in
set_option maxRecDepth 20000 in
theorem g_0_379 {S : Nat × (Nat → Int32)} {d : Nat} {σ : Mem} {Q : MQ1} {x3 : Int32} {y0 : Int32} {y1 : Int32} (hS : S.1 < 10000) (h : ((y0 = y1 → Ev S (d + 8) 0 10 [some (.inr (some m_scr)), some (.inr (some 0)), some (.inr (some 60)), some (.inl (x3 + 6))] [] σ Q) ∧ (¬ (y0 = y1) → Q [.inl 0] σ))) : Ev S (d + 8) 0 379 [some (.inr (some m_scr)), some (.inr (some 0)), some (.inr (some 60)), some (.inl x3)] [.inl y1, .inl y0] σ Q := by
  refine e_icmp (P := y0 = y1) q_0 rfl m_c0 (fun c => ?_) (fun c => ?_)
  · replace h := h.1 c
    refine e_iinc (ls' := [some (.inr (some m_scr)), some (.inr (some 0)), some (.inr (some 60)), some (.inl (x3 + 6))]) q_0 rfl rfl rfl ?_
    refine e_goto q_0 rfl ?_
    exact h
  · replace h := h.2 c
    refine e_push q_0 rfl ?_
    exact e_zreturn q_0 rfl rfl (by decide) h
set_option maxHeartbeats 4000000 in
set_option maxRecDepth 20000 in
theorem g_0_436 {S : Nat × (Nat → Int32)} {d : Nat} {σ : Mem} {Q : MQ1} {x3 : Int32} {y0 : Int32} {y1 : Int32} (hS : S.1 < 10000) (h : ((y0 = y1 → Ev S (d + 8) 0 10 [some (.inr (some m_scr)), some (.inr (some 0)), some (.inr (some 60)), some (.inl (x3 + 6))] [] σ Q) ∧ (¬ (y0 = y1) → Q [.inl 0] σ))) : Ev S (d + 8) 0 436 [some (.inr (some m_scr)), some (.inr (some 0)), some (.inr (some 60)), some (.inl x3)] [.inl y1, .inl y0] σ Q := by
  refine e_icmp (P := y0 = y1) q_0 rfl m_c0 (fun c => ?_) (fun c => ?_)
  · replace h := h.1 c
    refine e_iinc (ls' := [some (.inr (some m_scr)), some (.inr (some 0)), some (.inr (some 60)), some (.inl (x3 + 6))]) q_0 rfl rfl rfl ?_
    refine e_goto q_0 rfl ?_
    exact h
  · replace h := h.2 c
    refine e_push q_0 rfl ?_
    exact e_zreturn q_0 rfl rfl (by decide) h
set_option maxHeartbeats 4000000 in
set_option maxRecDepth 20000 in
theorem g_0_453 {S : Nat × (Nat → Int32)} {d : Nat} {σ : Mem} {Q : MQ1} {x3 : Int32} {y0 : Int32} {y1 : Int32} (hS : S.1 < 10000) (h : ((y0 = y1 → Ev S (d + 8) 0 10 [some (.inr (some m_scr)), some (.inr (some 0)), some (.inr (some 60)), some (.inl (x3 + 6))] [] σ Q) ∧ (¬ (y0 = y1) → Q [.inl 0] σ))) : Ev S (d + 8) 0 453 [some (.inr (some m_scr)), some (.inr (some 0)), some (.inr (some 60)), some (.inl x3)] [.inl y1, .inl y0] σ Q := by
  refine e_icmp (P := y0 = y1) q_0 rfl m_c0 (fun c => ?_) (fun c => ?_)
  · replace h := h.1 c
    refine e_iinc (ls' := [some (.inr (some m_scr)), some (.inr (some 0)), some (.inr (some 60)), some (.inl (x3 + 6))]) q_0 rfl rfl rfl ?_
    refine e_goto q_0 rfl ?_
    exact h
  · replace h := h.2 c
    refine e_push q_0 rfl ?_
    exact e_zreturn q_0 rfl rfl (by decide) h
set_option maxHeartbeats 4000000 in
set_option maxRecDepth 20000 in
theorem g_0_480 {S : Nat × (Nat → Int32)} {d : Nat} {σ : Mem} {Q : MQ1} {x3 : Int32} {y0 : Int32} {y1 : Int32} (hS : S.1 < 10000) (h : ((y0 = y1 → Ev S (d + 8) 0 10 [some (.inr (some m_scr)), some (.inr (some 0)), some (.inr (some 60)), some (.inl (x3 + 6))] [] σ Q) ∧ (¬ (y0 = y1) → Q [.inl 0] σ))) : Ev S (d + 8) 0 480 [some (.inr (some m_scr)), some (.inr (some 0)), some (.inr (some 60)), some (.inl x3)] [.inl y1, .inl y0] σ Q := by
  refine e_icmp (P := y0 = y1) q_0 rfl m_c0 (fun c => ?_) (fun c => ?_)
  · replace h := h.1 c
    refine e_iinc (ls' := [some (.inr (some m_scr)), some (.inr (some 0)), some (.inr (some 60)), some (.inl (x3 + 6))]) q_0 rfl rfl rfl ?_
    refine e_goto q_0 rfl ?_
    exact h
  · replace h := h.2 c
    refine e_push q_0 rfl ?_
    exact e_zreturn q_0 rfl rfl (by decide) h
set_option maxHeartbeats 4000000 in
set_option maxRecDepth 20000 in
theorem g_0_507 {S : Nat × (Nat → Int32)} {d : Nat} {σ : Mem} {Q : MQ1} {x3 : Int32} {y0 : Int32} {y1 : Int32} (hS : S.1 < 10000) (h : ((y0 = y1 → Ev S (d + 8) 0 10 [some (.inr (some m_scr)), some (.inr (some 0)), some (.inr (some 60)), some (.inl (x3 + 6))] [] σ Q) ∧ (¬ (y0 = y1) → Q [.inl 0] σ))) : Ev S (d + 8) 0 507 [some (.inr (some m_scr)), some (.inr (some 0)), some (.inr (some 60)), some (.inl x3)] [.inl y1, .inl y0] σ Q := by
  refine e_icmp (P := y0 = y1) q_0 rfl m_c0 (fun c => ?_) (fun c => ?_)
  · replace h := h.1 c
    refine e_iinc (ls' := [some (.inr (some m_scr)), some (.inr (some 0)), some (.inr (some 60)), some (.inl (x3 + 6))]) q_0 rfl rfl rfl ?_
    refine e_goto q_0 rfl ?_
    exact h
  · replace h := h.2 c
    refine e_push q_0 rfl ?_
    exact e_zreturn q_0 rfl rfl (by decide) h
set_option maxHeartbeats 4000000 in
set_option maxRecDepth 20000 in
theorem g_0_514 {S : Nat × (Nat → Int32)} {d : Nat} {σ : Mem} {Q : MQ1} {x3 : Int32} {y0 : Int32} {y1 : Int32} (hS : S.1 < 10000) (h : ((y0 = y1 → Ev S (d + 8) 0 10 [some (.inr (some m_scr)), some (.inr (some 0)), some (.inr (some 60)), some (.inl (x3 + 6))] [] σ Q) ∧ (¬ (y0 = y1) → Q [.inl 0] σ))) : Ev S (d + 8) 0 514 [some (.inr (some m_scr)), some (.inr (some 0)), some (.inr (some 60)), some (.inl x3)] [.inl y1, .inl y0] σ Q := by
  refine e_icmp (P := y0 = y1) q_0 rfl m_c0 (fun c => ?_) (fun c => ?_)
  · replace h := h.1 c
    refine e_iinc (ls' := [some (.inr (some m_scr)), some (.inr (some 0)), some (.inr (some 60)), some (.inl (x3 + 6))]) q_0 rfl rfl rfl ?_
    refine e_goto q_0 rfl ?_
    exact h
  · replace h := h.2 c
    refine e_push q_0 rfl ?_
    exact e_zreturn q_0 rfl rfl (by decide) h
set_option maxHeartbeats 4000000 in
set_option maxRecDepth 20000 in
theorem g_0_531 {S : Nat × (Nat → Int32)} {d : Nat} {σ : Mem} {Q : MQ1} {x3 : Int32} {y0 : Int32} {y1 : Int32} (hS : S.1 < 10000) (h : ((y0 = y1 → Ev S (d + 8) 0 10 [some (.inr (some m_scr)), some (.inr (some 0)), some (.inr (some 60)), some (.inl (x3 + 6))] [] σ Q) ∧ (¬ (y0 = y1) → Q [.inl 0] σ))) : Ev S (d + 8) 0 531 [some (.inr (some m_scr)), some (.inr (some 0)), some (.inr (some 60)), some (.inl x3)] [.inl y1, .inl y0] σ Q := by
  refine e_icmp (P := y0 = y1) q_0 rfl m_c0 (fun c => ?_) (fun c => ?_)
  · replace h := h.1 c
    refine e_iinc (ls' := [some (.inr (some m_scr)), some (.inr (some 0)), some (.inr (some 60)), some (.inl (x3 + 6))]) q_0 rfl rfl rfl ?_
    refine e_goto q_0 rfl ?_
    exact h
  · replace h := h.2 c
    refine e_push q_0 rfl ?_
    exact e_zreturn q_0 rfl rfl (by decide) h
set_option maxHeartbeats 4000000 in
set_option maxRecDepth 20000 in
theorem g_0_538 {S : Nat × (Nat → Int32)} {d : Nat} {σ : Mem} {Q : MQ1} {x3 : Int32} {y0 : Int32} {y1 : Int32} (hS : S.1 < 10000) (h : ((y0 = y1 → Ev S (d + 8) 0 10 [some (.inr (some m_scr)), some (.inr (some 0)), some (.inr (some 60)), some (.inl (x3 + 6))] [] σ Q) ∧ (¬ (y0 = y1) → Q [.inl 0] σ))) : Ev S (d + 8) 0 538 [some (.inr (some m_scr)), some (.inr (some 0)), some (.inr (some 60)), some (.inl x3)] [.inl y1, .inl y0] σ Q := by
  refine e_icmp (P := y0 = y1) q_0 rfl m_c0 (fun c => ?_) (fun c => ?_)
  · replace h := h.1 c
    refine e_iinc (ls' := [some (.inr (some m_scr)), some (.inr (some 0)), some (.inr (some 60)), some (.inl (x3 + 6))]) q_0 rfl rfl rfl ?_
    refine e_goto q_0 rfl ?_
    exact h
  · replace h := h.2 c
    refine e_push q_0 rfl ?_
    exact e_zreturn q_0 rfl rfl (by decide) h
set_option maxHeartbeats 4000000 in
set_option maxRecDepth 20000 in
theorem g_0_563 {S : Nat × (Nat → Int32)} {d : Nat} {σ : Mem} {Q : MQ1} {x3 : Int32} {y0 : Int32} {y1 : Int32} (hS : S.1 < 10000) (h : ((y0 = y1 → Ev S (d + 8) 0 10 [some (.inr (some m_scr)), some (.inr (some 0)), some (.inr (some 60)), some (.inl (x3 + 6))] [] σ Q) ∧ (¬ (y0 = y1) → Q [.inl 0] σ))) : Ev S (d + 8) 0 563 [some (.inr (some m_scr)), some (.inr (some 0)), some (.inr (some 60)), some (.inl x3)] [.inl y1, .inl y0] σ Q := by
  refine e_icmp (P := y0 = y1) q_0 rfl m_c0 (fun c => ?_) (fun c => ?_)
  · replace h := h.1 c
    refine e_iinc (ls' := [some (.inr (some m_scr)), some (.inr (some 0)), some (.inr (some 60)), some (.inl (x3 + 6))]) q_0 rfl rfl rfl ?_
    refine e_goto q_0 rfl ?_
    exact h
  · replace h := h.2 c
    refine e_push q_0 rfl ?_
    exact e_zreturn q_0 rfl rfl (by decide) h
set_option maxHeartbeats 4000000 in
set_option maxRecDepth 20000 in
theorem g_0_570 {S : Nat × (Nat → Int32)} {d : Nat} {σ : Mem} {Q : MQ1} {x3 : Int32} {y0 : Int32} {y1 : Int32} (hS : S.1 < 10000) (h : ((y0 = y1 → Ev S (d + 8) 0 10 [some (.inr (some m_scr)), some (.inr (some 0)), some (.inr (some 60)), some (.inl (x3 + 6))] [] σ Q) ∧ (¬ (y0 = y1) → Q [.inl 0] σ))) : Ev S (d + 8) 0 570 [some (.inr (some m_scr)), some (.inr (some 0)), some (.inr (some 60)), some (.inl x3)] [.inl y1, .inl y0] σ Q := by
  refine e_icmp (P := y0 = y1) q_0 rfl m_c0 (fun c => ?_) (fun c => ?_)
  · replace h := h.1 c
    refine e_iinc (ls' := [some (.inr (some m_scr)), some (.inr (some 0)), some (.inr (some 60)), some (.inl (x3 + 6))]) q_0 rfl rfl rfl ?_
    refine e_goto q_0 rfl ?_
    exact h
  · replace h := h.2 c
    refine e_push q_0 rfl ?_
    exact e_zreturn q_0 rfl rfl (by decide) h
set_option maxHeartbeats 4000000 in
set_option maxRecDepth 20000 in
theorem g_0_595 {S : Nat × (Nat → Int32)} {d : Nat} {σ : Mem} {Q : MQ1} {x3 : Int32} {y0 : Int32} {y1 : Int32} (hS : S.1 < 10000) (h : ((y0 = y1 → Ev S (d + 8) 0 10 [some (.inr (some m_scr)), some (.inr (some 0)), some (.inr (some 60)), some (.inl (x3 + 6))] [] σ Q) ∧ (¬ (y0 = y1) → Q [.inl 0] σ))) : Ev S (d + 8) 0 595 [some (.inr (some m_scr)), some (.inr (some 0)), some (.inr (some 60)), some (.inl x3)] [.inl y1, .inl y0] σ Q := by
  refine e_icmp (P := y0 = y1) q_0 rfl m_c0 (fun c => ?_) (fun c => ?_)
  · replace h := h.1 c
    refine e_iinc (ls' := [some (.inr (some m_scr)), some (.inr (some 0)), some (.inr (some 60)), some (.inl (x3 + 6))]) q_0 rfl rfl rfl ?_
    refine e_goto q_0 rfl ?_
    exact h
  · replace h := h.2 c
    refine e_push q_0 rfl ?_
    exact e_zreturn q_0 rfl rfl (by decide) h
set_option maxHeartbeats 4000000 in
set_option maxRecDepth 20000 in
theorem g_0_630 {S : Nat × (Nat → Int32)} {d : Nat} {σ : Mem} {Q : MQ1} {x3 : Int32} {y0 : Int32} {y1 : Int32} (hS : S.1 < 10000) (h : ((y0 = y1 → Ev S (d + 8) 0 10 [some (.inr (some m_scr)), some (.inr (some 0)), some (.inr (some 60)), some (.inl (x3 + 6))] [] σ Q) ∧ (¬ (y0 = y1) → Q [.inl 0] σ))) : Ev S (d + 8) 0 630 [some (.inr (some m_scr)), some (.inr (some 0)), some (.inr (some 60)), some (.inl x3)] [.inl y1, .inl y0] σ Q := by
  refine e_icmp (P := y0 = y1) q_0 rfl m_c0 (fun c => ?_) (fun c => ?_)
  · replace h := h.1 c
    refine e_iinc (ls' := [some (.inr (some m_scr)), some (.inr (some 0)), some (.inr (some 60)), some (.inl (x3 + 6))]) q_0 rfl rfl rfl ?_
    refine e_goto q_0 rfl ?_
    exact h
  · replace h := h.2 c
    refine e_push q_0 rfl ?_
    exact e_zreturn q_0 rfl rfl (by decide) h
set_option maxHeartbeats 4000000 in
set_option maxRecDepth 20000 in
theorem g_0_655 {S : Nat × (Nat → Int32)} {d : Nat} {σ : Mem} {Q : MQ1} {x3 : Int32} {y0 : Int32} {y1 : Int32} (hS : S.1 < 10000) (h : ((y0 = y1 → Ev S (d + 8) 0 10 [some (.inr (some m_scr)), some (.inr (some 0)), some (.inr (some 60)), some (.inl (x3 + 6))] [] σ Q) ∧ (¬ (y0 = y1) → Q [.inl 0] σ))) : Ev S (d + 8) 0 655 [some (.inr (some m_scr)), some (.inr (some 0)), some (.inr (some 60)), some (.inl x3)] [.inl y1, .inl y0] σ Q := by
  refine e_icmp (P := y0 = y1) q_0 rfl m_c0 (fun c => ?_) (fun c => ?_)
  · replace h := h.1 c
    refine e_iinc (ls' := [some (.inr (some m_scr)), some (.inr (some 0)), some (.inr (some 60)), some (.inl (x3 + 6))]) q_0 rfl rfl rfl ?_
    refine e_goto q_0 rfl ?_
    exact h
  · replace h := h.2 c
    refine e_push q_0 rfl ?_
    exact e_zreturn q_0 rfl rfl (by decide) h
set_option maxHeartbeats 4000000 in
set_option maxRecDepth 20000 in
theorem g_0_672 {S : Nat × (Nat → Int32)} {d : Nat} {σ : Mem} {Q : MQ1} {x3 : Int32} {y0 : Int32} {y1 : Int32} (hS : S.1 < 10000) (h : ((y0 = y1 → Ev S (d + 8) 0 10 [some (.inr (some m_scr)), some (.inr (some 0)), some (.inr (some 60)), some (.inl (x3 + 6))] [] σ Q) ∧ (¬ (y0 = y1) → Q [.inl 0] σ))) : Ev S (d + 8) 0 672 [some (.inr (some m_scr)), some (.inr (some 0)), some (.inr (some 60)), some (.inl x3)] [.inl y1, .inl y0] σ Q := by
  refine e_icmp (P := y0 = y1) q_0 rfl m_c0 (fun c => ?_) (fun c => ?_)
  · replace h := h.1 c
    refine e_iinc (ls' := [some (.inr (some m_scr)), some (.inr (some 0)), some (.inr (some 60)), some (.inl (x3 + 6))]) q_0 rfl rfl rfl ?_
    refine e_goto q_0 rfl ?_
    exact h
  · replace h := h.2 c
    refine e_push q_0 rfl ?_
    exact e_zreturn q_0 rfl rfl (by decide) h
set_option maxHeartbeats 4000000 in
set_option maxRecDepth 20000 in
theorem g_0_699 {S : Nat × (Nat → Int32)} {d : Nat} {σ : Mem} {Q : MQ1} {x3 : Int32} {y0 : Int32} {y1 : Int32} (hS : S.1 < 10000) (h : ((y0 = y1 → Ev S (d + 8) 0 10 [some (.inr (some m_scr)), some (.inr (some 0)), some (.inr (some 60)), some (.inl (x3 + 6))] [] σ Q) ∧ (¬ (y0 = y1) → Q [.inl 0] σ))) : Ev S (d + 8) 0 699 [some (.inr (some m_scr)), some (.inr (some 0)), some (.inr (some 60)), some (.inl x3)] [.inl y1, .inl y0] σ Q := by
  refine e_icmp (P := y0 = y1) q_0 rfl m_c0 (fun c => ?_) (fun c => ?_)
  · replace h := h.1 c
    refine e_iinc (ls' := [some (.inr (some m_scr)), some (.inr (some 0)), some (.inr (some 60)), some (.inl (x3 + 6))]) q_0 rfl rfl rfl ?_
    refine e_goto q_0 rfl ?_
    exact h
  · replace h := h.2 c
    refine e_push q_0 rfl ?_
    exact e_zreturn q_0 rfl rfl (by decide) h
set_option maxHeartbeats 4000000 in
set_option maxRecDepth 20000 in
theorem g_0_726 {S : Nat × (Nat → Int32)} {d : Nat} {σ : Mem} {Q : MQ1} {x3 : Int32} {y0 : Int32} {y1 : Int32} (hS : S.1 < 10000) (h : ((y0 = y1 → Ev S (d + 8) 0 10 [some (.inr (some m_scr)), some (.inr (some 0)), some (.inr (some 60)), some (.inl (x3 + 6))] [] σ Q) ∧ (¬ (y0 = y1) → Q [.inl 0] σ))) : Ev S (d + 8) 0 726 [some (.inr (some m_scr)), some (.inr (some 0)), some (.inr (some 60)), some (.inl x3)] [.inl y1, .inl y0] σ Q := by
  refine e_icmp (P := y0 = y1) q_0 rfl m_c0 (fun c => ?_) (fun c => ?_)
  · replace h := h.1 c
    refine e_iinc (ls' := [some (.inr (some m_scr)), some (.inr (some 0)), some (.inr (some 60)), some (.inl (x3 + 6))]) q_0 rfl rfl rfl ?_
    refine e_goto q_0 rfl ?_
    exact h
  · replace h := h.2 c
    refine e_push q_0 rfl ?_
    exact e_zreturn q_0 rfl rfl (by decide) h
set_option maxHeartbeats 4000000 in
set_option maxRecDepth 20000 in
theorem g_0_743 {S : Nat × (Nat → Int32)} {d : Nat} {σ : Mem} {Q : MQ1} {x3 : Int32} {y0 : Int32} {y1 : Int32} (hS : S.1 < 10000) (h : ((y0 = y1 → Ev S (d + 8) 0 10 [some (.inr (some m_scr)), some (.inr (some 0)), some (.inr (some 60)), some (.inl (x3 + 6))] [] σ Q) ∧ (¬ (y0 = y1) → Q [.inl 0] σ))) : Ev S (d + 8) 0 743 [some (.inr (some m_scr)), some (.inr (some 0)), some (.inr (some 60)), some (.inl x3)] [.inl y1, .inl y0] σ Q := by
  refine e_icmp (P := y0 = y1) q_0 rfl m_c0 (fun c => ?_) (fun c => ?_)
  · replace h := h.1 c
    refine e_iinc (ls' := [some (.inr (some m_scr)), some (.inr (some 0)), some (.inr (some 60)), some (.inl (x3 + 6))]) q_0 rfl rfl rfl ?_
    refine e_goto q_0 rfl ?_
    exact h
  · replace h := h.2 c
    refine e_push q_0 rfl ?_
    exact e_zreturn q_0 rfl rfl (by decide) h
set_option maxHeartbeats 4000000 in
set_option maxRecDepth 20000 in
theorem g_0_750 {S : Nat × (Nat → Int32)} {d : Nat} {σ : Mem} {Q : MQ1} {x3 : Int32} {y0 : Int32} {y1 : Int32} (hS : S.1 < 10000) (h : ((y0 = y1 → Ev S (d + 8) 0 10 [some (.inr (some m_scr)), some (.inr (some 0)), some (.inr (some 60)), some (.inl (x3 + 6))] [] σ Q) ∧ (¬ (y0 = y1) → Q [.inl 0] σ))) : Ev S (d + 8) 0 750 [some (.inr (some m_scr)), some (.inr (some 0)), some (.inr (some 60)), some (.inl x3)] [.inl y1, .inl y0] σ Q := by
  refine e_icmp (P := y0 = y1) q_0 rfl m_c0 (fun c => ?_) (fun c => ?_)
  · replace h := h.1 c
    refine e_iinc (ls' := [some (.inr (some m_scr)), some (.inr (some 0)), some (.inr (some 60)), some (.inl (x3 + 6))]) q_0 rfl rfl rfl ?_
    refine e_goto q_0 rfl ?_
    exact h
  · replace h := h.2 c
    refine e_push q_0 rfl ?_
    exact e_zreturn q_0 rfl rfl (by decide) h
set_option maxHeartbeats 4000000 in
set_option maxRecDepth 20000 in
theorem g_0_767 {S : Nat × (Nat → Int32)} {d : Nat} {σ : Mem} {Q : MQ1} {x3 : Int32} {y0 : Int32} {y1 : Int32} (hS : S.1 < 10000) (h : ((y0 = y1 → Ev S (d + 8) 0 10 [some (.inr (some m_scr)), some (.inr (some 0)), some (.inr (some 60)), some (.inl (x3 + 6))] [] σ Q) ∧ (¬ (y0 = y1) → Q [.inl 0] σ))) : Ev S (d + 8) 0 767 [some (.inr (some m_scr)), some (.inr (some 0)), some (.inr (some 60)), some (.inl x3)] [.inl y1, .inl y0] σ Q := by
  refine e_icmp (P := y0 = y1) q_0 rfl m_c0 (fun c => ?_) (fun c => ?_)
  · replace h := h.1 c
    refine e_iinc (ls' := [some (.inr (some m_scr)), some (.inr (some 0)), some (.inr (some 60)), some (.inl (x3 + 6))]) q_0 rfl rfl rfl ?_
    refine e_goto q_0 rfl ?_
    exact h
  · replace h := h.2 c
    refine e_push q_0 rfl ?_
    exact e_zreturn q_0 rfl rfl (by decide) h
