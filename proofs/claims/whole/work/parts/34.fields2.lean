theorem TI_4 {r : Nat → Int32} {n t q : Nat} (h : TI r n t) (hq : q < 65536) : TI (upd r (1 + 9 * t + 4) (nI q)) n t := by
  unfold TI at h ⊢
  simp only [upd, Nat.add_left_cancel_iff, Nat.add_right_cancel_iff, Nat.reduceEqDiff, if_true, if_false, Nat.left_eq_add]
  obtain ⟨a0, a1, a2, a3, a4, a5, a6, a7, a8, a9, a10⟩ := h
  exact ⟨a0, a1, a2, a3, ⟨q, hq, rfl⟩, a5, a6, a7, a8, a9, a10⟩
theorem TI_5 {r : Nat → Int32} {n t : Nat} {v : Int32} (h : TI r n t) (hk : r (1 + 9 * t) = 3) (hv : v = -1 ∨ ∃ q, q < n ∧ q ≠ t ∧ v = nI q) : TI (upd r (1 + 9 * t + 5) v) n t := by
  unfold TI at h ⊢
  simp only [upd, Nat.add_left_cancel_iff, Nat.add_right_cancel_iff, Nat.reduceEqDiff, if_true, if_false, Nat.left_eq_add]
  obtain ⟨a0, a1, a2, a3, a4, a5, a6, a7, a8, a9, a10⟩ := h
  exact ⟨a0, a1, a2, a3, a4, hv, a6, a7, a8, a9, fun z => absurd hk z⟩
theorem TI_6 {r : Nat → Int32} {n t : Nat} {v : Int32} (h : TI r n t) (hk : ¬ r (1 + 9 * t) = 2) (hv : isW v) : TI (upd r (1 + 9 * t + 6) v) n t := by
  unfold TI at h ⊢
  simp only [upd, Nat.add_left_cancel_iff, Nat.add_right_cancel_iff, Nat.reduceEqDiff, if_true, if_false, Nat.left_eq_add]
  obtain ⟨a0, a1, a2, a3, a4, a5, a6, a7, a8, a9, a10⟩ := h
  exact ⟨a0, a1, a2, a3, a4, a5, hv, a7, a8, fun z => absurd z hk, a10⟩
theorem TI_7 {r : Nat → Int32} {n t : Nat} {v : Int32} (h : TI r n t) (hk : ¬ r (1 + 9 * t) = 2) (hv : isW v) : TI (upd r (1 + 9 * t + 7) v) n t := by
  unfold TI at h ⊢
  simp only [upd, Nat.add_left_cancel_iff, Nat.add_right_cancel_iff, Nat.reduceEqDiff, if_true, if_false, Nat.left_eq_add]
  obtain ⟨a0, a1, a2, a3, a4, a5, a6, a7, a8, a9, a10⟩ := h
  exact ⟨a0, a1, a2, a3, a4, a5, a6, hv, a8, fun z => absurd z hk, a10⟩
theorem TI_8 {r : Nat → Int32} {n t q : Nat} (h : TI r n t) (hq : q ≤ 1000) : TI (upd r (1 + 9 * t + 8) (nI q)) n t := by
  unfold TI at h ⊢
  simp only [upd, Nat.add_left_cancel_iff, Nat.add_right_cancel_iff, Nat.reduceEqDiff, if_true, if_false, Nat.left_eq_add]
  obtain ⟨a0, a1, a2, a3, a4, a5, a6, a7, a8, a9, a10⟩ := h
  exact ⟨a0, a1, a2, a3, a4, a5, a6, a7, ⟨q, hq, rfl⟩, a9, a10⟩
theorem L_standards {S : Nat × (Nat → Int32)} {d : Nat} {σ : Mem} {x1 x2 : Int32} (hG : GI σ) : LK S (d + 4) 79 (d + 4) 134 [.inl x1, .inl x2] σ := by
  have hG' := hG
  obtain ⟨⟨n, hR, hC⟩, ⟨m, nx, hm, hnx, h1, h2, h3, hold⟩, hS, hF⟩ := hG'
  have hn8 := hR.1
  refine Ec_of rfl (g_79_0 ?_)
  rw [hC.1]
  rcases ixc x1 (n := n) (by omega) with c | ⟨c0, c1, c2⟩ | ⟨t, ht, rfl, c0, c1, c2⟩
  · exact br_t c (Ec_of rfl (g_134_0 (br_t c (fin_f hG))))
  · exact br_f c0 (br_f c2 (Ec_of rfl (g_134_0 (br_f c0 (br_t (by rw [e61f, hR.2.1]; exact c1) (fin_f hG))))))
  · have m1 : ¬ up σ 0 5 (σ 0 5 + 1) 61 0 ≤ nI t := by rw [e61f, hR.2.1]; exact c2
    refine br_f c0 (br_t c1 ?_)
    rcases lec x2 (n := 65535) (by decide) with b | ⟨b0, b1, b2⟩ | ⟨k, hk, rfl, b0, b1, b2⟩
    · exact br_t b (Ec_of rfl (g_134_0 (br_f c0 (br_f m1 (br_t b (fin_f hG))))))
    · exact br_f b0 (br_f b2 (Ec_of rfl (g_134_0 (br_f c0 (br_f m1 (br_f b0 (br_t b1 (fin_f hG))))))))
    · refine br_f b0 (br_t b1 (c_change (k := 4) h1 hnx h2 hm (by omega) (by decide) (fun σk hK => g_79_18 ?_)))
      have k61 : up σk 2 (8 * 4 + t) (nI k) 61 = σ 61 := by rw [up_ne (by decide), hK.1 61 (by decide) (by omega)]
      have k60 : up σk 2 (8 * 4 + t) (nI k) 60 2 = nI m := by rw [up_ne (by decide), hK.1 60 (by decide) (by omega)]; exact h3
      refine Ec_of rfl (g_134_0 (br_f c0 (br_f (by rw [k61, hR.2.1]; exact c2) (br_f b0 (br_f b2 (m_change (f := 4) k60 hm (by omega) (by decide) (fun σa hA => g_134_18 ?_)))))))
      obtain ⟨e1, e2, e3⟩ := fin_chg (k := 4) hR hC hm hnx hold hS hF ht (by decide) (TI_4 (hR.2.2.1 t ht) (by omega)) hK hA
      refine ⟨_, rfl, ?_, e3⟩
      rw [e1, e2, hC.2.1 4 (by decide) t ht]
      rfl
theorem L_partner {S : Nat × (Nat → Int32)} {d : Nat} {σ : Mem} {x1 x2 : Int32} (hG : GI σ) : LK S (d + 4) 80 (d + 4) 135 [.inl x1, .inl x2] σ := by
  have hG' := hG
  obtain ⟨⟨n, hR, hC⟩, ⟨m, nx, hm, hnx, h1, h2, h3, hold⟩, hS, hF⟩ := hG'
  have hn8 := hR.1
  refine Ec_of rfl (g_80_0 ?_)
  rw [hC.1]
  rcases ixc x1 (n := n) (by omega) with c | ⟨c0, c1, c2⟩ | ⟨t, ht, rfl, c0, c1, c2⟩
  · exact br_t c (Ec_of rfl (g_135_0 (br_t c (fin_f hG))))
  · exact br_f c0 (br_f c2 (Ec_of rfl (g_135_0 (br_f c0 (br_t (by rw [e61f, hR.2.1]; exact c1) (fin_f hG))))))
  · have m1 : ¬ up σ 0 5 (σ 0 5 + 1) 61 0 ≤ nI t := by rw [e61f, hR.2.1]; exact c2
    refine br_f c0 (br_t c1 ?_)
    by_cases b : x2 = -1
    · subst b
      refine br_t rfl ⟨t, ix80 t, by omega, ?_⟩
      rw [(cf hC ht).1]
      by_cases a1 : σ 61 (1 + 9 * t) = 3
      · refine br_t a1.symm ?_
        by_cases a2 : nI t = -1
        · exact br_f (not_not_intro a2) (Ec_of rfl (g_135_0 (br_f c0 (br_f m1 (br_t rfl ⟨_, ix90 t, by omega, br_t (by rw [e61f]; exact a1) (br_f (not_not_intro a2) (fin_f hG))⟩)))))
        · refine br_t a2 (c_change (k := 8) h1 hnx h2 hm (by omega) (by decide) (fun σk hK => g_80_37 ?_))
          have k61 : up σk 2 (8 * 8 + t) (-1) 61 = σ 61 := by rw [up_ne (by decide), hK.1 61 (by decide) (by omega)]
          have k60 : up σk 2 (8 * 8 + t) (-1) 60 2 = nI m := by rw [up_ne (by decide), hK.1 60 (by decide) (by omega)]; exact h3
          have m2 : ¬ up σk 2 (8 * 8 + t) (-1) 61 0 ≤ nI t := by rw [k61, hR.2.1]; exact c2
          refine Ec_of rfl (g_135_0 (br_f c0 (br_f m2 (br_t rfl ⟨_, ix90 t, by omega, br_t (by rw [k61]; exact a1) (br_t a2 (m_change (f := 5) k60 hm (by omega) (by decide) (fun σa hA => g_135_37 ?_)))⟩))))
          obtain ⟨e1, e2, e3⟩ := fin_chg (k := 8) hR hC hm hnx hold hS hF ht (by decide) (TI_5 (hR.2.2.1 t ht) a1 (Or.inl rfl)) hK hA
          refine ⟨_, rfl, ?_, e3⟩
          rw [e1, e2, hC.2.1 8 (by decide) t ht]
          rfl
      · exact br_f (fun q => a1 q.symm) (Ec_of rfl (g_135_0 (br_f c0 (br_f m1 (br_t rfl ⟨_, ix90 t, by omega, br_f (by rw [e61f]; exact a1) (fin_f hG)⟩)))))
    · refine br_f b ?_
      rcases ixc x2 (n := n) (by omega) with q | ⟨q0, q1, q2⟩ | ⟨p, hp, rfl, q2, q3, q4⟩
      · exact br_t q (Ec_of rfl (g_135_0 (br_f c0 (br_f m1 (br_f b (br_t q (fin_f hG)))))))
      · exact br_f q0 (br_f q2 (Ec_of rfl (g_135_0 (br_f c0 (br_f m1 (br_f b (br_f q0 (br_t (by rw [e61f, hR.2.1]; exact q1) (fin_f hG)))))))))
      · have q1 := b
        refine br_f q2 (br_t q3 ⟨t, ix80 t, by omega, ?_⟩)
        rw [(cf hC ht).1]
        by_cases a1 : σ 61 (1 + 9 * t) = 3
        · refine br_t a1.symm ?_
          by_cases a2 : nI t = nI p
          · exact br_f (not_not_intro a2) (Ec_of rfl (g_135_0 (br_f c0 (br_f m1 (br_f q1 (br_f q2 (br_f (by rw [e61f, hR.2.1]; exact q4) ⟨_, ix90 t, by omega, br_t (by rw [e61f]; exact a1) (br_f (not_not_intro a2) (fin_f hG))⟩)))))))
          · refine br_t a2 (c_change (k := 8) h1 hnx h2 hm (by omega) (by decide) (fun σk hK => g_80_37 ?_))
            have k61 : up σk 2 (8 * 8 + t) (nI p) 61 = σ 61 := by rw [up_ne (by decide), hK.1 61 (by decide) (by omega)]
            have k60 : up σk 2 (8 * 8 + t) (nI p) 60 2 = nI m := by rw [up_ne (by decide), hK.1 60 (by decide) (by omega)]; exact h3
            have m2 : ¬ up σk 2 (8 * 8 + t) (nI p) 61 0 ≤ nI t := by rw [k61, hR.2.1]; exact c2
            refine Ec_of rfl (g_135_0 (br_f c0 (br_f m2 (br_f q1 (br_f q2 (br_f (by rw [k61, hR.2.1]; exact q4) ⟨_, ix90 t, by omega, br_t (by rw [k61]; exact a1) (br_t a2 (m_change (f := 5) k60 hm (by omega) (by decide) (fun σa hA => g_135_37 ?_)))⟩))))))
            obtain ⟨e1, e2, e3⟩ := fin_chg (k := 8) hR hC hm hnx hold hS hF ht (by decide) (TI_5 (hR.2.2.1 t ht) a1 (Or.inr ⟨p, hp, fun z => a2 (by rw [z]), rfl⟩)) hK hA
            refine ⟨_, rfl, ?_, e3⟩
            rw [e1, e2, hC.2.1 8 (by decide) t ht]
            rfl
        · exact br_f (fun q => a1 q.symm) (Ec_of rfl (g_135_0 (br_f c0 (br_f m1 (br_f q1 (br_f q2 (br_f (by rw [e61f, hR.2.1]; exact q4) ⟨_, ix90 t, by omega, br_f (by rw [e61f]; exact a1) (fin_f hG)⟩)))))))
theorem L_put {S : Nat × (Nat → Int32)} {d : Nat} {σ : Mem} {x1 x2 : Int32} (hG : GI σ) : LK S (d + 5) 89 (d + 5) 147 [.inl x1, .inl x2] σ := by
  have hG' := hG
  obtain ⟨⟨n, hR, hC⟩, ⟨m, nx, hm, hnx, h1, h2, h3, hold⟩, hS, hF⟩ := hG'
  have hn8 := hR.1
  refine Ec_of rfl (g_89_0 ?_)
  rw [hC.1]
  rcases ixc x1 (n := n) (by omega) with c | ⟨c0, c1, c2⟩ | ⟨t, ht, rfl, c0, c1, c2⟩
  · exact br_t c (Ec_of rfl (g_147_0 (br_t c (fin_f hG))))
  · exact br_f c0 (br_f c2 (Ec_of rfl (g_147_0 (br_f c0 (br_t (by rw [e61f, hR.2.1]; exact c1) (fin_f hG))))))
  · have m1 : ¬ up σ 0 5 (σ 0 5 + 1) 61 0 ≤ nI t := by rw [e61f, hR.2.1]; exact c2
    refine br_f c0 (br_t c1 ?_)
    by_cases b : x2 = -1
    · subst b
      refine br_t rfl ⟨t, ix00 t, by omega, ?_⟩
      rw [(cf hC ht).1]
      by_cases a1 : σ 61 (1 + 9 * t) = 2
      · exact br_f (not_not_intro a1) (Ec_of rfl (g_147_0 (br_f c0 (br_f m1 (br_t rfl ⟨_, ix90 t, by omega, br_f (not_not_intro (by rw [e61f]; exact a1)) (fin_f hG)⟩)))))
      · refine br_t a1 (c_change (k := 5) h1 hnx h2 hm (by omega) (by decide) (fun σk hK => g_113_28 (g_89_5 ?_)))
        have k61 : up σk 2 (8 * 5 + t) (-1) 61 = σ 61 := by rw [up_ne (by decide), hK.1 61 (by decide) (by omega)]
        have k60 : up σk 2 (8 * 5 + t) (-1) 60 2 = nI m := by rw [up_ne (by decide), hK.1 60 (by decide) (by omega)]; exact h3
        have m2 : ¬ up σk 2 (8 * 5 + t) (-1) 61 0 ≤ nI t := by rw [k61, hR.2.1]; exact c2
        refine Ec_of rfl (g_147_0 (br_f c0 (br_f m2 (br_t rfl ⟨_, ix90 t, by omega, br_t (by rw [k61]; exact a1) (m_change (f := 6) k60 hm (by omega) (by decide) (fun σa hA => g_146_27 (g_147_5 ?_)))⟩))))
        obtain ⟨e1, e2, e3⟩ := fin_chg (k := 5) hR hC hm hnx hold hS hF ht (by decide) (TI_6 (hR.2.2.1 t ht) a1 (Or.inl rfl)) hK hA
        refine ⟨_, rfl, ?_, e3⟩
        rw [e1, e2, hC.2.1 5 (by decide) t ht]
        rfl
    · refine br_f b ?_
      rcases ixc x2 (n := 6) (by decide) with q | ⟨q0, q1, q2⟩ | ⟨p, hp, rfl, q2, q3, q4⟩
      · exact br_t q (Ec_of rfl (g_147_0 (br_f c0 (br_f m1 (br_f b (br_t q (fin_f hG)))))))
      · have q3 : (5 : Int32) < x2 := Int32.lt_of_lt_of_le (by decide) q1
        exact br_f q0 (br_f q2 (Ec_of rfl (g_147_0 (br_f c0 (br_f m1 (br_f b (br_f q0 (br_t q3 (fin_f hG)))))))))
      · have q5 : ¬ (5 : Int32) < nI p := nI_nlt (a := 5) (by omega) (by decide)
        refine br_f q2 (br_t q3 ⟨t, ix00 t, by omega, ?_⟩)
        rw [(cf hC ht).1]
        by_cases a1 : σ 61 (1 + 9 * t) = 2
        · exact br_f (not_not_intro a1) (Ec_of rfl (g_147_0 (br_f c0 (br_f m1 (br_f b (br_f q2 (br_f q5 ⟨_, ix90 t, by omega, br_f (not_not_intro (by rw [e61f]; exact a1)) (fin_f hG)⟩)))))))
        · refine br_t a1 (c_change (k := 5) h1 hnx h2 hm (by omega) (by decide) (fun σk hK => g_113_28 (g_89_5 ?_)))
          have k61 : up σk 2 (8 * 5 + t) (nI p) 61 = σ 61 := by rw [up_ne (by decide), hK.1 61 (by decide) (by omega)]
          have k60 : up σk 2 (8 * 5 + t) (nI p) 60 2 = nI m := by rw [up_ne (by decide), hK.1 60 (by decide) (by omega)]; exact h3
          have m2 : ¬ up σk 2 (8 * 5 + t) (nI p) 61 0 ≤ nI t := by rw [k61, hR.2.1]; exact c2
          refine Ec_of rfl (g_147_0 (br_f c0 (br_f m2 (br_f b (br_f q2 (br_f q5 ⟨_, ix90 t, by omega, br_t (by rw [k61]; exact a1) (m_change (f := 6) k60 hm (by omega) (by decide) (fun σa hA => g_146_27 (g_147_5 ?_)))⟩))))))
          obtain ⟨e1, e2, e3⟩ := fin_chg (k := 5) hR hC hm hnx hold hS hF ht (by decide) (TI_6 (hR.2.2.1 t ht) a1 (Or.inr ⟨p, hp, rfl⟩)) hK hA
          refine ⟨_, rfl, ?_, e3⟩
          rw [e1, e2, hC.2.1 5 (by decide) t ht]
          rfl
theorem L_again {S : Nat × (Nat → Int32)} {d : Nat} {σ : Mem} {x1 x2 : Int32} (hG : GI σ) : LK S (d + 5) 90 (d + 5) 148 [.inl x1, .inl x2] σ := by
  have hG' := hG
  obtain ⟨⟨n, hR, hC⟩, ⟨m, nx, hm, hnx, h1, h2, h3, hold⟩, hS, hF⟩ := hG'
  have hn8 := hR.1
  refine Ec_of rfl (g_90_0 ?_)
  rw [hC.1]
  rcases ixc x1 (n := n) (by omega) with c | ⟨c0, c1, c2⟩ | ⟨t, ht, rfl, c0, c1, c2⟩
  · exact br_t c (Ec_of rfl (g_148_0 (br_t c (fin_f hG))))
  · exact br_f c0 (br_f c2 (Ec_of rfl (g_148_0 (br_f c0 (br_t (by rw [e61f, hR.2.1]; exact c1) (fin_f hG))))))
  · have m1 : ¬ up σ 0 5 (σ 0 5 + 1) 61 0 ≤ nI t := by rw [e61f, hR.2.1]; exact c2
    refine br_f c0 (br_t c1 ?_)
    by_cases b : x2 = -1
    · subst b
      refine br_t rfl ⟨t, ix00 t, by omega, ?_⟩
      rw [(cf hC ht).1]
      by_cases a1 : σ 61 (1 + 9 * t) = 2
      · exact br_f (not_not_intro a1) (Ec_of rfl (g_148_0 (br_f c0 (br_f m1 (br_t rfl ⟨_, ix90 t, by omega, br_f (not_not_intro (by rw [e61f]; exact a1)) (fin_f hG)⟩)))))
      · refine br_t a1 (c_change (k := 6) h1 hnx h2 hm (by omega) (by decide) (fun σk hK => g_113_28 (g_90_5 ?_)))
        have k61 : up σk 2 (8 * 6 + t) (-1) 61 = σ 61 := by rw [up_ne (by decide), hK.1 61 (by decide) (by omega)]
        have k60 : up σk 2 (8 * 6 + t) (-1) 60 2 = nI m := by rw [up_ne (by decide), hK.1 60 (by decide) (by omega)]; exact h3
        have m2 : ¬ up σk 2 (8 * 6 + t) (-1) 61 0 ≤ nI t := by rw [k61, hR.2.1]; exact c2
        refine Ec_of rfl (g_148_0 (br_f c0 (br_f m2 (br_t rfl ⟨_, ix90 t, by omega, br_t (by rw [k61]; exact a1) (m_change (f := 7) k60 hm (by omega) (by decide) (fun σa hA => g_146_27 (g_148_5 ?_)))⟩))))
        obtain ⟨e1, e2, e3⟩ := fin_chg (k := 6) hR hC hm hnx hold hS hF ht (by decide) (TI_7 (hR.2.2.1 t ht) a1 (Or.inl rfl)) hK hA
        refine ⟨_, rfl, ?_, e3⟩
        rw [e1, e2, hC.2.1 6 (by decide) t ht]
        rfl
    · refine br_f b ?_
      rcases ixc x2 (n := 6) (by decide) with q | ⟨q0, q1, q2⟩ | ⟨p, hp, rfl, q2, q3, q4⟩
      · exact br_t q (Ec_of rfl (g_148_0 (br_f c0 (br_f m1 (br_f b (br_t q (fin_f hG)))))))
      · have q3 : (5 : Int32) < x2 := Int32.lt_of_lt_of_le (by decide) q1
        exact br_f q0 (br_f q2 (Ec_of rfl (g_148_0 (br_f c0 (br_f m1 (br_f b (br_f q0 (br_t q3 (fin_f hG)))))))))
      · have q5 : ¬ (5 : Int32) < nI p := nI_nlt (a := 5) (by omega) (by decide)
        refine br_f q2 (br_t q3 ⟨t, ix00 t, by omega, ?_⟩)
        rw [(cf hC ht).1]
        by_cases a1 : σ 61 (1 + 9 * t) = 2
        · exact br_f (not_not_intro a1) (Ec_of rfl (g_148_0 (br_f c0 (br_f m1 (br_f b (br_f q2 (br_f q5 ⟨_, ix90 t, by omega, br_f (not_not_intro (by rw [e61f]; exact a1)) (fin_f hG)⟩)))))))
        · refine br_t a1 (c_change (k := 6) h1 hnx h2 hm (by omega) (by decide) (fun σk hK => g_113_28 (g_90_5 ?_)))
          have k61 : up σk 2 (8 * 6 + t) (nI p) 61 = σ 61 := by rw [up_ne (by decide), hK.1 61 (by decide) (by omega)]
          have k60 : up σk 2 (8 * 6 + t) (nI p) 60 2 = nI m := by rw [up_ne (by decide), hK.1 60 (by decide) (by omega)]; exact h3
          have m2 : ¬ up σk 2 (8 * 6 + t) (nI p) 61 0 ≤ nI t := by rw [k61, hR.2.1]; exact c2
          refine Ec_of rfl (g_148_0 (br_f c0 (br_f m2 (br_f b (br_f q2 (br_f q5 ⟨_, ix90 t, by omega, br_t (by rw [k61]; exact a1) (m_change (f := 7) k60 hm (by omega) (by decide) (fun σa hA => g_146_27 (g_148_5 ?_)))⟩))))))
          obtain ⟨e1, e2, e3⟩ := fin_chg (k := 6) hR hC hm hnx hold hS hF ht (by decide) (TI_7 (hR.2.2.1 t ht) a1 (Or.inr ⟨p, hp, rfl⟩)) hK hA
          refine ⟨_, rfl, ?_, e3⟩
          rw [e1, e2, hC.2.1 6 (by decide) t ht]
          rfl
theorem L_book {S : Nat × (Nat → Int32)} {d : Nat} {σ : Mem} {x1 x2 : Int32} (hG : GI σ) : LK S (d + 4) 100 (d + 4) 171 [.inl x1, .inl x2] σ := by
  have hG' := hG
  obtain ⟨⟨n, hR, hC⟩, ⟨m, nx, hm, hnx, h1, h2, h3, hold⟩, hS, hF⟩ := hG'
  have hn8 := hR.1
  refine Ec_of rfl (g_100_0 ?_)
  rw [hC.1]
  rcases ixc x1 (n := n) (by omega) with c | ⟨c0, c1, c2⟩ | ⟨t, ht, rfl, c0, c1, c2⟩
  · exact br_t c (Ec_of rfl (g_171_0 (br_t c (fin_f hG))))
  · exact br_f c0 (br_f c2 (Ec_of rfl (g_171_0 (br_f c0 (br_t (by rw [e61f, hR.2.1]; exact c1) (fin_f hG))))))
  · have m1 : ¬ up σ 0 5 (σ 0 5 + 1) 61 0 ≤ nI t := by rw [e61f, hR.2.1]; exact c2
    refine br_f c0 (br_t c1 ?_)
    by_cases b : x2 < 1
    · exact br_t b (Ec_of rfl (g_171_0 (br_f c0 (br_f m1 (br_t b (fin_f hG))))))
    · have b9 : ¬ x2 < 0 := fun q => b (Int32.lt_trans q (by decide))
      refine br_f b ?_
      rcases lec x2 (n := 100) (by decide) with q | ⟨b0, b1, b2⟩ | ⟨k, hk, rfl, b0, b1, b2⟩
      · exact absurd q b9
      · exact br_f b2 (Ec_of rfl (g_171_0 (br_f c0 (br_f m1 (br_f b (br_t b1 (fin_f hG)))))))
      · obtain ⟨g, hg, e8⟩ := (hR.2.2.1 t ht).2.2.2.2.2.2.2.2.1
        refine br_t b1 ⟨_, ix8 7 t, by omega, ?_⟩
        rw [hC.2.1 7 (by decide) t ht, show fm 7 = 8 from rfl, e8, nI_add]
        by_cases hfull : g + k ≤ 1000
        · have f1 : nI (g + k) ≤ 1000 := nI_le (b := 1000) hfull (by decide)
          refine br_t f1 (c_change (k := 7) h1 hnx h2 hm (by omega) (by decide) (fun σk hK => g_100_34 ?_))
          have k61 : up σk 2 (8 * 7 + t) (nI (g + k)) 61 = σ 61 := by rw [up_ne (by decide), hK.1 61 (by decide) (by omega)]
          have k60 : up σk 2 (8 * 7 + t) (nI (g + k)) 60 2 = nI m := by rw [up_ne (by decide), hK.1 60 (by decide) (by omega)]; exact h3
          refine Ec_of rfl (g_171_0 (br_f c0 (br_f (by rw [k61, hR.2.1]; exact c2) (br_f b (br_f b2 ⟨_, ix9 t 8, by omega, br_t (by rw [k61, e8, nI_add]; exact f1) (c_act k60 hm (fun σa hA => g_171_27 ⟨_, ix9 t 8, by omega, _, ix9 t 8, by omega, _, ix9 t 8, by omega, ?_⟩))⟩)))))
          obtain ⟨e1, e2, e3⟩ := fin_chg (k := 7) hR hC hm hnx hold hS hF ht (by decide) (TI_8 (hR.2.2.1 t ht) hfull) hK hA
          rw [up_self, e2, e8, nI_add]
          exact ⟨_, rfl, rfl, e3⟩
        · have f1 : ¬ nI (g + k) ≤ 1000 := nI_ge (b := g + k) (a := 1000) (by omega) (by omega)
          exact br_f f1 (Ec_of rfl (g_171_0 (br_f c0 (br_f m1 (br_f b (br_f b2 ⟨_, ix9 t 8, by omega, br_f (by rw [e61f, e8, nI_add]; exact f1) (fin_f hG)⟩))))))
