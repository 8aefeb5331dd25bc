theorem m_best {S : Nat × (Nat → Int32)} {d n m : Nat} {τ : Mem} {x1 : Int32} {r : Nat → Int32} {Q : MQ1} (e61 : τ 61 = r) (hR : RI r n) (h2 : τ 60 2 = nI m) (hm : m ≤ 25)
    (hlong : 4 < pos r n → ∀ σ' : Mem, (∀ a, a ≠ 60 → a ≠ 67 → a ≠ 68 → a ≠ 69 → σ' a = τ a) → (∀ j, j ≠ 9 → j ≠ 12 → j ≠ 13 → j ≠ 14 → σ' 60 j = τ 60 j) → Q [.inl (-100008)] (up σ' 60 6 (σ' 60 6 + 1)))
    (hnone : pos r n ≤ 4 → (goM r n false n 0 (fun _ => 0) A00).1 = 0 → ∀ σ' : Mem, (∀ a, a ≠ 60 → a ≠ 67 → a ≠ 68 → a ≠ 69 → σ' a = τ a) → (∀ j, j ≠ 9 → j ≠ 12 → j ≠ 13 → j ≠ 14 → σ' 60 j = τ 60 j) → Q [.inl (-100006)] (up σ' 60 6 (σ' 60 6 + 1)))
    (hval : pos r n ≤ 4 → 0 < (goM r n false n 0 (fun _ => 0) A00).1 → x1 = 0 → ∀ σ' : Mem, (∀ a, a ≠ 60 → a ≠ 67 → a ≠ 68 → a ≠ 69 → σ' a = τ a) → (∀ j, j ≠ 9 → j ≠ 12 → j ≠ 13 → j ≠ 14 → σ' 60 j = τ 60 j) → Q [.inl (nI (goM r n false n 0 (fun _ => 0) A00).2.2.1)] σ')
    (htake : pos r n ≤ 4 → 0 < (goM r n false n 0 (fun _ => 0) A00).1 → ¬ x1 = 0 → ∀ σm σa σ2 : Mem, (∀ a, a ≠ 60 → a ≠ 67 → a ≠ 68 → a ≠ 69 → σm a = τ a) → (∀ j, j ≠ 9 → j ≠ 12 → j ≠ 13 → j ≠ 14 → σm 60 j = τ 60 j) → AP σm σa m → (∀ a, a ≠ 61 → σ2 a = σa a) → σ2 61 = rowp r n (goM r n false n 0 (fun _ => 0) A00).2.2.2 → (∀ t, t < n → ¬ r (1 + 9 * t) = 2 → (goM r n false n 0 (fun _ => 0) A00).2.2.2 t < 42) → Q [.inl (nI (goM r n false n 0 (fun _ => 0) A00).2.2.1)] σ2) : Ec S (d + 13) 164 [.inr (some 60), .inl x1] τ Q := by
  have hn8 := hR.1
  refine Ec_of rfl (g_164_0 (m_goOver (bm := false) (n := n) (by simp) (by rw [e61]; exact hR) (fun h4 σ' a b => ?_) (fun h4 σm a b c e => ?_)))
  · rw [e61] at h4
    exact g_164_3 (br_f (not_not_intro rfl) (hlong h4 σ' (fun x x1 x2 x3 _ => a x x1 x2 x3) (fun j j1 _ _ _ => b j j1)))
  · rw [e61] at h4 c e
    refine g_164_3 (br_t (by decide) ?_)
    have hle := (goM_le (r := r) (n := n) (bm := false) n 0 (fun _ => 0) A00).2
    have hwb := wb_lt (r := r) (n := n) h4
    have e4 : 42 ^ 4 = 3111696 := by decide
    have hA0 : (A00 : AS).1 = 0 := rfl
    rw [e.1]
    by_cases hz : (goM r n false n 0 (fun _ => 0) A00).1 = 0
    · exact br_f (not_not_intro (by rw [hz]; rfl)) (hnone h4 hz σm a b)
    · obtain ⟨b1, b2, b3, b4, b5⟩ := e.2 (by omega)
      refine br_t (nI_ne0 (by omega) (by omega)) ?_
      by_cases hx : x1 = 0
      · refine br_t hx ?_
        rw [b2]
        exact hval h4 (by omega) hx σm a b
      · refine br_f hx (c_act (m := m) (by rw [b 2 (by decide) (by decide) (by decide) (by decide)]; exact h2) hm (fun σa hA => g_164_19 (Ec_of rfl (g_163_0 rfl (lay_loop (r := r) (p1 := 69) hn8 rfl (by decide) n 0 σa (by omega) ⟨by rw [hA.2.1 9 (by decide)]; exact c.1, fun t u v => by rw [hA.1 67 (by decide) (by decide)]; exact (c.2 t u v).1⟩ (fun σ2 l1 l2 l3 => g_164_23 ?_))))))
        have ev : σ2 60 14 = nI (goM r n false n 0 (fun _ => 0) A00).2.2.1 := by rw [l1 60 (by decide), hA.2.1 14 (by decide), b2]
        rw [ev]
        refine htake h4 (by omega) hx σm σa σ2 a b hA l1 (row_fill (u := r) (v := r) (n := n) (r := r) (fun t u v => ?_) (fun i hi => ?_)) (fun t u v => (b5 t u v).1)
        · obtain ⟨w1, w2⟩ := l2 t (by omega) u v
          rw [w1, w2, hA.1 69 (by decide) (by decide), rowp_6 u v, rowp_7 u v]
          exact (b5 t u v).2
        · rw [l3 i (fun t' _ u v => hi t' u v), hA.1 61 (by decide) (by decide), a 61 (by decide) (by decide) (by decide) (by decide), e61, row_out hi]
theorem L_best {S : Nat × (Nat → Int32)} {d : Nat} {σ : Mem} {x1 : Int32} (hG : GI σ) : LK S (d + 13) 94 (d + 13) 164 [.inl x1] σ := by
  have hG' := hG
  obtain ⟨⟨n, hR, hC⟩, ⟨m, nx, hm, hnx, h1, h2, h3, hold⟩, hS, hF⟩ := hG'
  have hn8 := hR.1
  have hps := pos_stn (r := σ 61) n
  have esub : nI n - nI (sumN (stn (σ 61)) n) = nI (pos (σ 61) n) := by
    have := nI_subl (pos (σ 61) n) (sumN (stn (σ 61)) n)
    rw [hps] at this
    exact this
  refine Ec_of rfl (g_94_0 (d := d + 7) (c_strands hR hC (g_47_6 ?_)))
  rw [hC.1, esub]
  by_cases h4 : pos (σ 61) n ≤ 4
  · refine br_t (nI_le (b := 4) h4 (by decide)) (c_search (bm := false) (by decide) rfl hR hC h4 (fun σc hSR => g_114_15 (br_t (by decide) ?_)))
    obtain ⟨s1, s2, s3, ⟨c, c1, c2, c3, c4⟩, s5, s6⟩ := hSR
    have sF : ∀ a, a = 0 ∨ a = 2 ∨ 24 ≤ a → σc a = σ a := fun a ha => s1 a (by omega) (by omega) (by omega) (by omega)
    have hGc : GI σc := hG.congr (fun a ha => sF a (by omega)) (by rw [sF 60 (by omega)]) (by rw [sF 0 (by omega), sF 60 (by omega)]; exact hF)
    have hle := (goM_le (r := σ 61) (n := n) (bm := false) n 0 (fun _ => 0) A00).2
    have hwb := wb_lt (r := σ 61) (n := n) h4
    have e4 : 42 ^ 4 = 3111696 := by decide
    have hA0 : (A00 : AS).1 = 0 := rfl
    rw [c1]
    by_cases hz : (goM (σ 61) n false n 0 (fun _ => 0) A00).1 = 0
    · have : c = 0 := by omega
      subst this
      refine br_f (not_not_intro rfl) (g_94_4 (m_best (r := σ 61) (n := n) (m := m) (by rw [up_ne (by decide), sF 61 (by omega)]) hR (by rw [up_ne (by decide), sF 60 (by omega)]; exact h3) hm (fun h5 => by omega) (fun _ _ σ' a b => ⟨_, rfl, rfl, ?_⟩) (fun _ h5 => by omega) (fun _ h5 => by omega)))
      refine hGc.congr (fun x hx => by rw [up_ne (by omega), a x (by omega) (by omega) (by omega) (by omega), up_ne (by omega)]) (by rw [up_off (by decide), b 2 (by decide) (by decide) (by decide) (by decide), up_ne (by decide)]) ?_
      rw [up_ne (by decide), a 0 (by decide) (by decide) (by decide) (by decide), up_self, up_self, b 6 (by decide) (by decide) (by decide) (by decide), up_ne (by decide), hGc.2.2.2]
    · have hc0 := c4 (by omega)
      refine br_t (nI_ne0 (by omega) (by omega)) (br_f (not_not_intro rfl) ?_)
      obtain ⟨b1, b2, b3, b4, b5⟩ := s6 (by decide) (by omega)
      have eans : σc 4 9 = nI (goM (σ 61) n false n 0 (fun _ => 0) A00).2.2.1 := b1
      rw [eans]
      by_cases hx : x1 = 0
      · refine br_t hx (g_94_4 (m_best (r := σ 61) (n := n) (m := m) (by rw [sF 61 (by omega)]) hR (by rw [sF 60 (by omega)]; exact h3) hm (fun h5 => by omega) (fun _ h5 => by omega) (fun _ _ _ σ' a b => ⟨_, rfl, rfl, ?_⟩) (fun _ _ h5 => absurd hx h5)))
        refine hGc.congr (fun x hx => by rw [a x (by omega) (by omega) (by omega) (by omega)]) (by rw [b 2 (by decide) (by decide) (by decide) (by decide)]) ?_
        rw [a 0 (by decide) (by decide) (by decide) (by decide), b 6 (by decide) (by decide) (by decide) (by decide), hGc.2.2.2]
      · refine br_f hx (c_keep (m := m) (nx := nx) (by rw [sF 24 (by omega)]; exact h1) hnx (by rw [sF 24 (by omega)]; exact h2) hm (fun σk hK => g_114_47 (Ec_of rfl (g_52_0 (ss_loop (r := σ 61) hn8 h4 n 0 σk (by omega) (by rw [hK.1 4 (by decide) (by omega)]; exact s2) (fun t u v => ?_) (fun σ1 k1 k2 k3 => g_114_50 (g_94_4 ?_)))))))
        · have := pos_lt u v
          rw [hK.1 _ (by omega) (by omega)]
          exact (s3 t u v).2.1
        · have k61 : σ1 61 = σ 61 := by rw [k1 61 (by decide), hK.1 61 (by decide) (by omega), sF 61 (by omega)]
          refine m_best (r := σ 61) (n := n) (m := m) k61 hR (by rw [k1 60 (by decide), hK.1 60 (by decide) (by omega), sF 60 (by omega)]; exact h3) hm (fun h5 => by omega) (fun _ h5 => by omega) (fun _ _ h5 => absurd h5 hx) (fun _ _ _ σm σa σ2 a b hA l1 l2 l3 => ⟨_, rfl, rfl, ?_⟩)
          have c2e : σc 2 = σ 2 := sF 2 (by omega)
          have c61e : σc 61 = σ 61 := sF 61 (by omega)
          refine fin_take (σ := σc) (n := n) (b := (goM (σ 61) n false n 0 (fun _ => 0) A00).2.2.2) hGc (by rw [c61e]; exact hR) (by rw [c2e, c61e]; exact hC) hm hnx (fun j hj => ?_) hK k1 a b hA l1 (by rw [c61e]; exact l3) ?_ (by rw [c61e]; exact l2)
          · rw [sF _ (by omega), sF 62 (by omega)]
            exact hold j hj
          · rw [c61e]
            refine CR_plan hn8 hC (fun t u v => ?_) (fun i hi => ?_)
            · have hpp := pos_lt u v
              obtain ⟨w1, w2⟩ := k2 t (by omega) u v
              rw [w1, w2, hK.1 _ (by omega) (by omega)]
              exact (b5 t u v).2
            · rw [k3 i (fun t' _ u v => hi t' u v), hK.1 2 (by decide) (by omega), c2e]
  · refine br_f (nI_ge (a := 4) (by omega) (by omega)) (g_114_3 (br_f (by decide) (g_94_4 (m_best (r := σ 61) (n := n) (m := m) (up_ne (by decide)) hR (by rw [up_ne (by decide)]; exact h3) hm (fun _ σ' a b => ⟨_, rfl, rfl, ?_⟩) (fun h5 => absurd h5 h4) (fun h5 => absurd h5 h4) (fun h5 => absurd h5 h4)))))
    refine hG.congr (fun x hx => by rw [up_ne (by omega), a x (by omega) (by omega) (by omega) (by omega), up_ne (by omega)]) (by rw [up_off (by decide), b 2 (by decide) (by decide) (by decide) (by decide), up_ne (by decide)]) ?_
    rw [up_ne (by decide), a 0 (by decide) (by decide) (by decide) (by decide), up_self, up_self, b 6 (by decide) (by decide) (by decide) (by decide), up_ne (by decide), hF]
theorem m_least {S : Nat × (Nat → Int32)} {d n m : Nat} {τ : Mem} {x1 : Int32} {r : Nat → Int32} {Q : MQ1} (e61 : τ 61 = r) (hR : RI r n) (h2 : τ 60 2 = nI m) (hm : m ≤ 25)
    (hlong : 4 < pos r n → ∀ σ' : Mem, (∀ a, a ≠ 60 → a ≠ 67 → a ≠ 68 → a ≠ 69 → σ' a = τ a) → (∀ j, j ≠ 9 → j ≠ 12 → j ≠ 13 → j ≠ 14 → σ' 60 j = τ 60 j) → Q [.inl (-100008)] (up σ' 60 6 (σ' 60 6 + 1)))
    (hnone : pos r n ≤ 4 → (goM r n true n 0 (fun _ => 0) A00).1 = 0 → ∀ σ' : Mem, (∀ a, a ≠ 60 → a ≠ 67 → a ≠ 68 → a ≠ 69 → σ' a = τ a) → (∀ j, j ≠ 9 → j ≠ 12 → j ≠ 13 → j ≠ 14 → σ' 60 j = τ 60 j) → Q [.inl (-100006)] (up σ' 60 6 (σ' 60 6 + 1)))
    (hval : pos r n ≤ 4 → 0 < (goM r n true n 0 (fun _ => 0) A00).1 → x1 = 0 → ∀ σ' : Mem, (∀ a, a ≠ 60 → a ≠ 67 → a ≠ 68 → a ≠ 69 → σ' a = τ a) → (∀ j, j ≠ 9 → j ≠ 12 → j ≠ 13 → j ≠ 14 → σ' 60 j = τ 60 j) → Q [.inl (nI (goM r n true n 0 (fun _ => 0) A00).2.1)] σ')
    (htake : pos r n ≤ 4 → 0 < (goM r n true n 0 (fun _ => 0) A00).1 → ¬ x1 = 0 → ∀ σm σa σ2 : Mem, (∀ a, a ≠ 60 → a ≠ 67 → a ≠ 68 → a ≠ 69 → σm a = τ a) → (∀ j, j ≠ 9 → j ≠ 12 → j ≠ 13 → j ≠ 14 → σm 60 j = τ 60 j) → AP σm σa m → (∀ a, a ≠ 61 → σ2 a = σa a) → σ2 61 = rowp r n (goM r n true n 0 (fun _ => 0) A00).2.2.2 → (∀ t, t < n → ¬ r (1 + 9 * t) = 2 → (goM r n true n 0 (fun _ => 0) A00).2.2.2 t < 42) → Q [.inl (nI (goM r n true n 0 (fun _ => 0) A00).2.1)] σ2) : Ec S (d + 13) 166 [.inr (some 60), .inl x1] τ Q := by
  have hn8 := hR.1
  refine Ec_of rfl (g_166_0 (m_goOver (bm := true) (n := n) (by simp) (by rw [e61]; exact hR) (fun h4 σ' a b => ?_) (fun h4 σm a b c e => ?_)))
  · rw [e61] at h4
    exact g_166_3 (br_f (not_not_intro rfl) (hlong h4 σ' (fun x x1 x2 x3 _ => a x x1 x2 x3) (fun j j1 _ _ _ => b j j1)))
  · rw [e61] at h4 c e
    refine g_166_3 (br_t (by decide) ?_)
    have hle := (goM_le (r := r) (n := n) (bm := true) n 0 (fun _ => 0) A00).2
    have hwb := wb_lt (r := r) (n := n) h4
    have e4 : 42 ^ 4 = 3111696 := by decide
    have hA0 : (A00 : AS).1 = 0 := rfl
    rw [e.1]
    by_cases hz : (goM r n true n 0 (fun _ => 0) A00).1 = 0
    · exact br_f (not_not_intro (by rw [hz]; rfl)) (hnone h4 hz σm a b)
    · obtain ⟨b1, b2, b3, b4, b5⟩ := e.2 (by omega)
      refine br_t (nI_ne0 (by omega) (by omega)) ?_
      by_cases hx : x1 = 0
      · refine br_t hx ?_
        rw [b1]
        exact hval h4 (by omega) hx σm a b
      · refine br_f hx (c_act (m := m) (by rw [b 2 (by decide) (by decide) (by decide) (by decide)]; exact h2) hm (fun σa hA => g_166_19 (Ec_of rfl (g_163_0 rfl (lay_loop (r := r) (p1 := 69) hn8 rfl (by decide) n 0 σa (by omega) ⟨by rw [hA.2.1 9 (by decide)]; exact c.1, fun t u v => by rw [hA.1 67 (by decide) (by decide)]; exact (c.2 t u v).1⟩ (fun σ2 l1 l2 l3 => g_166_23 ?_))))))
        have ev : σ2 60 13 = nI (goM r n true n 0 (fun _ => 0) A00).2.1 := by rw [l1 60 (by decide), hA.2.1 13 (by decide), b1]
        rw [ev]
        refine htake h4 (by omega) hx σm σa σ2 a b hA l1 (row_fill (u := r) (v := r) (n := n) (r := r) (fun t u v => ?_) (fun i hi => ?_)) (fun t u v => (b5 t u v).1)
        · obtain ⟨w1, w2⟩ := l2 t (by omega) u v
          rw [w1, w2, hA.1 69 (by decide) (by decide), rowp_6 u v, rowp_7 u v]
          exact (b5 t u v).2
        · rw [l3 i (fun t' _ u v => hi t' u v), hA.1 61 (by decide) (by decide), a 61 (by decide) (by decide) (by decide) (by decide), e61, row_out hi]
theorem L_least {S : Nat × (Nat → Int32)} {d : Nat} {σ : Mem} {x1 : Int32} (hG : GI σ) : LK S (d + 13) 96 (d + 13) 166 [.inl x1] σ := by
  have hG' := hG
  obtain ⟨⟨n, hR, hC⟩, ⟨m, nx, hm, hnx, h1, h2, h3, hold⟩, hS, hF⟩ := hG'
  have hn8 := hR.1
  have hps := pos_stn (r := σ 61) n
  have esub : nI n - nI (sumN (stn (σ 61)) n) = nI (pos (σ 61) n) := by
    have := nI_subl (pos (σ 61) n) (sumN (stn (σ 61)) n)
    rw [hps] at this
    exact this
  refine Ec_of rfl (g_96_0 (d := d + 7) (c_strands hR hC (g_47_6 ?_)))
  rw [hC.1, esub]
  by_cases h4 : pos (σ 61) n ≤ 4
  · refine br_t (nI_le (b := 4) h4 (by decide)) (c_search (bm := true) (by decide) rfl hR hC h4 (fun σc hSR => g_114_15 (br_t (by decide) ?_)))
    obtain ⟨s1, s2, s3, ⟨c, c1, c2, c3, c4⟩, s5, s6⟩ := hSR
    have sF : ∀ a, a = 0 ∨ a = 2 ∨ 24 ≤ a → σc a = σ a := fun a ha => s1 a (by omega) (by omega) (by omega) (by omega)
    have hGc : GI σc := hG.congr (fun a ha => sF a (by omega)) (by rw [sF 60 (by omega)]) (by rw [sF 0 (by omega), sF 60 (by omega)]; exact hF)
    have hle := (goM_le (r := σ 61) (n := n) (bm := true) n 0 (fun _ => 0) A00).2
    have hwb := wb_lt (r := σ 61) (n := n) h4
    have e4 : 42 ^ 4 = 3111696 := by decide
    have hA0 : (A00 : AS).1 = 0 := rfl
    rw [c1]
    by_cases hz : (goM (σ 61) n true n 0 (fun _ => 0) A00).1 = 0
    · have : c = 0 := by omega
      subst this
      refine br_f (not_not_intro rfl) (g_96_4 (m_least (r := σ 61) (n := n) (m := m) (by rw [up_ne (by decide), sF 61 (by omega)]) hR (by rw [up_ne (by decide), sF 60 (by omega)]; exact h3) hm (fun h5 => by omega) (fun _ _ σ' a b => ⟨_, rfl, rfl, ?_⟩) (fun _ h5 => by omega) (fun _ h5 => by omega)))
      refine hGc.congr (fun x hx => by rw [up_ne (by omega), a x (by omega) (by omega) (by omega) (by omega), up_ne (by omega)]) (by rw [up_off (by decide), b 2 (by decide) (by decide) (by decide) (by decide), up_ne (by decide)]) ?_
      rw [up_ne (by decide), a 0 (by decide) (by decide) (by decide) (by decide), up_self, up_self, b 6 (by decide) (by decide) (by decide) (by decide), up_ne (by decide), hGc.2.2.2]
    · have hc0 := c4 (by omega)
      refine br_t (nI_ne0 (by omega) (by omega)) (br_t (by decide) ?_)
      obtain ⟨b1, b2, b3, b4, b5⟩ := s6 (by decide) (by omega)
      have eans : σc 4 8 = nI (goM (σ 61) n true n 0 (fun _ => 0) A00).2.1 := b2 rfl
      rw [eans]
      by_cases hx : x1 = 0
      · refine br_t hx (g_96_4 (m_least (r := σ 61) (n := n) (m := m) (by rw [sF 61 (by omega)]) hR (by rw [sF 60 (by omega)]; exact h3) hm (fun h5 => by omega) (fun _ h5 => by omega) (fun _ _ _ σ' a b => ⟨_, rfl, rfl, ?_⟩) (fun _ _ h5 => absurd hx h5)))
        refine hGc.congr (fun x hx => by rw [a x (by omega) (by omega) (by omega) (by omega)]) (by rw [b 2 (by decide) (by decide) (by decide) (by decide)]) ?_
        rw [a 0 (by decide) (by decide) (by decide) (by decide), b 6 (by decide) (by decide) (by decide) (by decide), hGc.2.2.2]
      · refine br_f hx (c_keep (m := m) (nx := nx) (by rw [sF 24 (by omega)]; exact h1) hnx (by rw [sF 24 (by omega)]; exact h2) hm (fun σk hK => g_114_47 (Ec_of rfl (g_52_0 (ss_loop (r := σ 61) hn8 h4 n 0 σk (by omega) (by rw [hK.1 4 (by decide) (by omega)]; exact s2) (fun t u v => ?_) (fun σ1 k1 k2 k3 => g_114_50 (g_96_4 ?_)))))))
        · have := pos_lt u v
          rw [hK.1 _ (by omega) (by omega)]
          exact (s3 t u v).2.1
        · have k61 : σ1 61 = σ 61 := by rw [k1 61 (by decide), hK.1 61 (by decide) (by omega), sF 61 (by omega)]
          refine m_least (r := σ 61) (n := n) (m := m) k61 hR (by rw [k1 60 (by decide), hK.1 60 (by decide) (by omega), sF 60 (by omega)]; exact h3) hm (fun h5 => by omega) (fun _ h5 => by omega) (fun _ _ h5 => absurd h5 hx) (fun _ _ _ σm σa σ2 a b hA l1 l2 l3 => ⟨_, rfl, rfl, ?_⟩)
          have c2e : σc 2 = σ 2 := sF 2 (by omega)
          have c61e : σc 61 = σ 61 := sF 61 (by omega)
          refine fin_take (σ := σc) (n := n) (b := (goM (σ 61) n true n 0 (fun _ => 0) A00).2.2.2) hGc (by rw [c61e]; exact hR) (by rw [c2e, c61e]; exact hC) hm hnx (fun j hj => ?_) hK k1 a b hA l1 (by rw [c61e]; exact l3) ?_ (by rw [c61e]; exact l2)
          · rw [sF _ (by omega), sF 62 (by omega)]
            exact hold j hj
          · rw [c61e]
            refine CR_plan hn8 hC (fun t u v => ?_) (fun i hi => ?_)
            · have hpp := pos_lt u v
              obtain ⟨w1, w2⟩ := k2 t (by omega) u v
              rw [w1, w2, hK.1 _ (by omega) (by omega)]
              exact (b5 t u v).2
            · rw [k3 i (fun t' _ u v => hi t' u v), hK.1 2 (by decide) (by omega), c2e]
  · refine br_f (nI_ge (a := 4) (by omega) (by omega)) (g_114_3 (br_f (by decide) (g_96_4 (m_least (r := σ 61) (n := n) (m := m) (up_ne (by decide)) hR (by rw [up_ne (by decide)]; exact h3) hm (fun _ σ' a b => ⟨_, rfl, rfl, ?_⟩) (fun h5 => absurd h5 h4) (fun h5 => absurd h5 h4) (fun h5 => absurd h5 h4)))))
    refine hG.congr (fun x hx => by rw [up_ne (by omega), a x (by omega) (by omega) (by omega) (by omega), up_ne (by omega)]) (by rw [up_off (by decide), b 2 (by decide) (by decide) (by decide) (by decide), up_ne (by decide)]) ?_
    rw [up_ne (by decide), a 0 (by decide) (by decide) (by decide) (by decide), up_self, up_self, b 6 (by decide) (by decide) (by decide) (by decide), up_ne (by decide), hF]
theorem L_plans {S : Nat × (Nat → Int32)} {d : Nat} {σ : Mem} (hG : GI σ) : LK S (d + 13) 95 (d + 13) 165 [] σ := by
  have hG' := hG
  obtain ⟨⟨n, hR, hC⟩, ⟨m, nx, hm, hnx, h1, h2, h3, hold⟩, hS, hF⟩ := hG'
  have hn8 := hR.1
  have hps := pos_stn (r := σ 61) n
  have esub : nI n - nI (sumN (stn (σ 61)) n) = nI (pos (σ 61) n) := by
    have := nI_subl (pos (σ 61) n) (sumN (stn (σ 61)) n)
    rw [hps] at this
    exact this
  refine Ec_of rfl (g_95_0 (d := d + 7) (c_strands hR hC (g_47_6 ?_)))
  rw [hC.1, esub]
  by_cases h4 : pos (σ 61) n ≤ 4
  · refine br_t (nI_le (b := 4) h4 (by decide)) (c_search (bm := false) (by decide) rfl hR hC h4 (fun σc hSR => g_114_15 (br_f (not_not_intro rfl) (g_95_4 ?_))))
    obtain ⟨s1, s2, s3, ⟨c, c1, c2, c3, c4⟩, s5, s6⟩ := hSR
    have sF : ∀ a, a = 0 ∨ a = 2 ∨ 24 ≤ a → σc a = σ a := fun a ha => s1 a (by omega) (by omega) (by omega) (by omega)
    have hGc : GI σc := hG.congr (fun a ha => sF a (by omega)) (by rw [sF 60 (by omega)]) (by rw [sF 0 (by omega), sF 60 (by omega)]; exact hF)
    have e61 : σc 61 = σ 61 := sF 61 (by omega)
    rw [c1, c3 rfl]
    refine Ec_of rfl (g_165_0 (m_goOver (bm := false) (n := n) (by simp) (by rw [e61]; exact hR) (fun h5 => by rw [e61] at h5; omega) (fun h5 σm a b x y => g_165_3 (br_f (by decide) ?_))))
    rw [e61] at y
    rw [y.1]
    refine ⟨_, rfl, rfl, hGc.congr (fun x hx => by rw [a x (by omega) (by omega) (by omega) (by omega)]) (by rw [b 2 (by decide) (by decide) (by decide) (by decide)]) ?_⟩
    rw [a 0 (by decide) (by decide) (by decide) (by decide), b 6 (by decide) (by decide) (by decide) (by decide), hGc.2.2.2]
  · refine br_f (nI_ge (a := 4) (by omega) (by omega)) (g_114_3 (br_f (by decide) (g_95_4 (Ec_of rfl (g_165_0 (m_goOver (bm := false) (n := n) (by simp) (by rw [e61f]; exact hR) (fun h5 σ' a b => g_165_3 (br_t rfl ⟨_, rfl, rfl, ?_⟩)) (fun h5 => by rw [e61f] at h5; exact absurd h5 h4)))))))
    refine hG.congr (fun x hx => by rw [up_ne (by omega), a x (by omega) (by omega) (by omega), up_ne (by omega)]) (by rw [up_off (by decide), b 2 (by decide), up_ne (by decide)]) ?_
    rw [up_ne (by decide), a 0 (by decide) (by decide) (by decide), up_self, up_self, b 6 (by decide), up_ne (by decide), hF]
