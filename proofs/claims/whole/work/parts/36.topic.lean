def nrow (r : Nat → Int32) (n : Nat) (K H : Int32) (k : Nat) : Nat → Int32 := fun j => if j = 0 then r 0 + 1 else if j = 1 + 9 * n then K else if j = 1 + 9 * n + 1 then H else if j = 1 + 9 * n + 5 ∨ j = 1 + 9 * n + 6 ∨ j = 1 + 9 * n + 7 then -1 else if 1 + 9 * n + k ≤ j ∧ j < 1 + 9 * n + 9 then 0 else r j
def crow (c : Nat → Int32) (n : Nat) (K H : Int32) : Nat → Int32 := fun j => if j = 80 then c 80 + 1 else if j = n then K else if j = 8 + n then H else if j = 40 + n ∨ j = 48 + n ∨ j = 64 + n then -1 else if j = 16 + n ∨ j = 24 + n ∨ j = 32 + n ∨ j = 56 + n then 0 else c j
theorem tp_loop {S : Nat × (Nat → Int32)} {d n : Nat} {x1 x2 : Int32} {Q : MQ1} (hn : n < 8) : ∀ (q k : Nat) (σ : Mem), k + q = 9 → (∀ σ' : Mem, (∀ a, a ≠ 61 → σ' a = σ a) → σ' 61 = nrow (σ 61) n x1 x2 k → Q [.inl (nI n)] σ') → Ev S (d + 1) 128 33 [some (.inr (some 60)), some (.inl x1), some (.inl x2), some (.inl (nI n)), some (.inl (nI k))] [] σ Q
  | 0, k, σ, hk, h => by
    have : k = 9 := by omega
    subst this
    refine g_128_33 ⟨fun _ => ⟨_, ix90 n, by omega, _, ix9 n 1, by omega, _, ix9 n 5, by omega, _, ix9 n 6, by omega, _, ix9 n 7, by omega, h _ (fun a ha => by rw [up_ne ha, up_ne ha, up_ne ha, up_ne ha, up_ne ha, up_ne ha]) ?_⟩, fun c => absurd (by decide) c⟩
    funext j
    unfold nrow
    simp only [up_at]
    repeat' split
    all_goals first | rfl | (exfalso; omega)
  | q + 1, k, σ, hk, h => by
    refine g_128_33 ⟨fun c => absurd c (nI_ge (b := 9) (by omega) (by decide)), fun _ => ⟨_, ix9 n k, by omega, ?_⟩⟩
    rw [nI_1]
    refine tp_loop hn q (k + 1) _ (by omega) (fun σ' h3 h4 => h σ' (fun a ha => by rw [h3 a ha, up_ne ha]) ?_)
    rw [h4]
    funext j
    unfold nrow
    simp only [up_at]
    repeat' split
    all_goals first | rfl | (exfalso; omega)
theorem RI_new {r : Nat → Int32} {n q g : Nat} (h : RI r n) (hn : n < 8) (hq : q ≤ 3) (hg1 : 1 ≤ g) (hg : g ≤ 9) : RI (nrow r n (nI q) (nI g) 0) (n + 1) := by
  obtain ⟨h1, h2, h3, h4, h5, h6⟩ := h
  have e : ∀ j, j ≠ 0 → ¬ (1 + 9 * n ≤ j ∧ j < 1 + 9 * n + 9) → nrow r n (nI q) (nI g) 0 j = r j := fun j a b => by
    unfold nrow
    rw [if_neg a, if_neg (by omega), if_neg (by omega), if_neg (by omega), if_neg (by omega)]
  have f : ∀ k, k < 9 → nrow r n (nI q) (nI g) 0 (1 + 9 * n + k) = if k = 0 then nI q else if k = 1 then nI g else if k = 5 ∨ k = 6 ∨ k = 7 then -1 else 0 := fun k hk => by
    unfold nrow
    repeat' split
    all_goals first | rfl | (exfalso; omega)
  refine ⟨by omega, ?_, fun t ht => ?_, fun w hw => by rw [e _ (by omega) (by omega)]; exact h4 w hw, fun w hw => by rw [e _ (by omega) (by omega)]; exact h5 w hw, by rw [e _ (by omega) (by omega)]; exact h6⟩
  · unfold nrow
    rw [if_pos rfl, h2, nI_1]
  · by_cases ht' : t = n
    · subst ht'
      unfold TI
      have f0 := f 0 (by decide)
      rw [Nat.add_zero] at f0
      rw [f0, f 1 (by decide), f 2 (by decide), f 3 (by decide), f 4 (by decide), f 5 (by decide), f 6 (by decide), f 7 (by decide), f 8 (by decide)]
      exact ⟨⟨q, hq, rfl⟩, ⟨g, hg1, hg, rfl⟩, ⟨0, ⟨Nat.pow_pos (by decide), Nat.zero_testBit _⟩, rfl⟩, ⟨0, by decide, rfl⟩, ⟨0, by decide, rfl⟩, Or.inl rfl, Or.inl rfl, Or.inl rfl, ⟨0, by decide, rfl⟩, fun _ => ⟨rfl, rfl, rfl⟩, fun _ => rfl⟩
    · have := h3 t (by omega)
      unfold TI at this ⊢
      rw [e (1 + 9 * t) (by omega) (by omega), e (1 + 9 * t + 1) (by omega) (by omega), e (1 + 9 * t + 2) (by omega) (by omega), e (1 + 9 * t + 3) (by omega) (by omega), e (1 + 9 * t + 4) (by omega) (by omega), e (1 + 9 * t + 5) (by omega) (by omega), e (1 + 9 * t + 6) (by omega) (by omega), e (1 + 9 * t + 7) (by omega) (by omega), e (1 + 9 * t + 8) (by omega) (by omega)]
      obtain ⟨a0, a1, ⟨s, hs, a2⟩, a3, a4, a5, a6⟩ := this
      refine ⟨a0, a1, ⟨s, ⟨Nat.lt_trans hs.1 (Nat.pow_lt_pow_right (by decide) (by omega)), hs.2⟩, a2⟩, a3, a4, ?_, a6⟩
      rcases a5 with a5 | ⟨s, hs, hne, a5⟩
      · exact Or.inl a5
      · exact Or.inr ⟨s, by omega, hne, a5⟩
theorem CR_new {c r : Nat → Int32} {n : Nat} {K H : Int32} (h : CR c r n) (hn : n < 8) : CR (crow c n K H) (nrow r n K H 0) (n + 1) := by
  obtain ⟨h1, h2, h3, ⟨s, h4, h5, h6⟩, h7⟩ := h
  have e : ∀ j, j ≠ 0 → ¬ (1 + 9 * n ≤ j ∧ j < 1 + 9 * n + 9) → nrow r n K H 0 j = r j := fun j a b => by
    unfold nrow
    rw [if_neg a, if_neg (by omega), if_neg (by omega), if_neg (by omega), if_neg (by omega)]
  have ec : ∀ j, j ≠ 80 → (∀ k, k < 9 → j ≠ 8 * k + n) → crow c n K H j = c j := fun j a b => by
    have b0 := b 0 (by decide)
    have b1 := b 1 (by decide)
    have b2 := b 2 (by decide)
    have b3 := b 3 (by decide)
    have b4 := b 4 (by decide)
    have b5 := b 5 (by decide)
    have b6 := b 6 (by decide)
    have b7 := b 7 (by decide)
    have b8 := b 8 (by decide)
    unfold crow
    rw [if_neg a, if_neg (by omega), if_neg (by omega), if_neg (by omega), if_neg (by omega)]
  refine ⟨?_, fun k hk t ht => ?_, fun w hw => by rw [ec _ (by omega) (fun k hk => by omega), e _ (by omega) (by omega)]; exact h3 w hw, ⟨s, h4, by rw [ec _ (by omega) (fun k hk => by omega)]; exact h5, fun w hw => by rw [e _ (by omega) (by omega)]; exact h6 w hw⟩, by rw [ec _ (by omega) (fun k hk => by omega), e _ (by omega) (by omega)]; exact h7⟩
  · unfold crow
    rw [if_pos rfl, h1, nI_1]
  · have hf := fm_lt hk
    by_cases ht' : t = n
    · subst ht'
      rcases (show k = 0 ∨ k = 1 ∨ k = 2 ∨ k = 3 ∨ k = 4 ∨ k = 5 ∨ k = 6 ∨ k = 7 ∨ k = 8 by omega) with rfl | rfl | rfl | rfl | rfl | rfl | rfl | rfl | rfl
      · show crow c t K H (8 * 0 + t) = nrow r t K H 0 (1 + 9 * t + 0)
        unfold crow nrow
        repeat' split
        all_goals first | rfl | (exfalso; omega)
      · show crow c t K H (8 * 1 + t) = nrow r t K H 0 (1 + 9 * t + 1)
        unfold crow nrow
        repeat' split
        all_goals first | rfl | (exfalso; omega)
      · show crow c t K H (8 * 2 + t) = nrow r t K H 0 (1 + 9 * t + 2)
        unfold crow nrow
        repeat' split
        all_goals first | rfl | (exfalso; omega)
      · show crow c t K H (8 * 3 + t) = nrow r t K H 0 (1 + 9 * t + 3)
        unfold crow nrow
        repeat' split
        all_goals first | rfl | (exfalso; omega)
      · show crow c t K H (8 * 4 + t) = nrow r t K H 0 (1 + 9 * t + 4)
        unfold crow nrow
        repeat' split
        all_goals first | rfl | (exfalso; omega)
      · show crow c t K H (8 * 5 + t) = nrow r t K H 0 (1 + 9 * t + 6)
        unfold crow nrow
        repeat' split
        all_goals first | rfl | (exfalso; omega)
      · show crow c t K H (8 * 6 + t) = nrow r t K H 0 (1 + 9 * t + 7)
        unfold crow nrow
        repeat' split
        all_goals first | rfl | (exfalso; omega)
      · show crow c t K H (8 * 7 + t) = nrow r t K H 0 (1 + 9 * t + 8)
        unfold crow nrow
        repeat' split
        all_goals first | rfl | (exfalso; omega)
      · show crow c t K H (8 * 8 + t) = nrow r t K H 0 (1 + 9 * t + 5)
        unfold crow nrow
        repeat' split
        all_goals first | rfl | (exfalso; omega)
    · rw [ec _ (by omega) (fun k' hk' => by omega), e _ (by omega) (by omega)]
      exact h2 k hk t (by omega)
theorem L_topic {S : Nat × (Nat → Int32)} {d : Nat} {σ : Mem} {x1 x2 : Int32} (hG : GI σ) : LK S (d + 3) 75 (d + 3) 128 [.inl x1, .inl x2] σ := by
  have hG' := hG
  obtain ⟨⟨n, hR, hC⟩, ⟨m, nx, hm, hnx, h1, h2, h3, hold⟩, hS, hF⟩ := hG'
  have hn8 := hR.1
  refine Ec_of rfl (g_75_0 ?_)
  rw [hC.1]
  rcases lec x1 (n := 3) (by decide) with c | ⟨c0, c1, c2⟩ | ⟨q, hq, rfl, c0, c1, c2⟩
  · exact br_t c (Ec_of rfl (g_128_0 (br_t c (fin_f hG))))
  · exact br_f c0 (br_f c2 (Ec_of rfl (g_128_0 (br_f c0 (br_t c1 (fin_f hG))))))
  · refine br_f c0 (br_t c1 ?_)
    by_cases b : x2 < 1
    · exact br_t b (Ec_of rfl (g_128_0 (br_f c0 (br_f c2 (br_t b (fin_f hG))))))
    · have b9 : ¬ x2 < 0 := fun q => b (Int32.lt_trans q (by decide))
      refine br_f b ?_
      rcases lec x2 (n := 9) (by decide) with q | ⟨b0, b1, b2⟩ | ⟨g, hg, rfl, b0, b1, b2⟩
      · exact absurd q b9
      · exact br_f b2 (Ec_of rfl (g_128_0 (br_f c0 (br_f c2 (br_f b (br_t b1 (fin_f hG)))))))
      · have hg1 : 1 ≤ g := by
          rcases Nat.eq_zero_or_pos g with rfl | h
          · exact absurd (by decide : nI 0 < 1) b
          · exact h
        refine br_t b1 ?_
        by_cases h8 : n = 8
        · subst h8
          exact br_f (by decide) (Ec_of rfl (g_128_0 (br_f c0 (br_f c2 (br_f b (br_f b2 (br_f (not_not_intro (by rw [e61f, hR.2.1]; rfl)) (fin_f hG))))))))
        · have hlt : n < 8 := by omega
          refine br_t (nI_lt (b := 8) hlt (by decide)) (c_keep h1 hnx h2 hm (fun σk hK => g_75_27 (Ec_of rfl (g_10_0 ?_))))
          have k2 : σk 2 = σ 2 := hK.1 2 (by decide) (by omega)
          have k80 : σk 2 80 = nI n := by rw [k2]; exact hC.1
          rw [k80]
          refine ⟨_, ix80 n, by omega, _, ix8 1 n, by omega, _, ix8 2 n, by omega, _, ix8 3 n, by omega, _, ix8 4 n, by omega, _, ix8 5 n, by omega, _, ix8 6 n, by omega, _, ix8 7 n, by omega, _, ix8 8 n, by omega, g_75_32 ?_⟩
          generalize hσ1 : up (up (up (up (up (up (up (up (up (up σk 2 n (nI q)) 2 (8 * 1 + n) (nI g)) 2 (8 * 2 + n) 0) 2 (8 * 3 + n) 0) 2 (8 * 4 + n) 0) 2 (8 * 5 + n) (-1)) 2 (8 * 6 + n) (-1)) 2 (8 * 7 + n) 0) 2 (8 * 8 + n) (-1)) 2 80 (nI n + 1) = σ1
          have o1 : ∀ a, a ≠ 2 → σ1 a = σk a := fun a ha => by rw [← hσ1, up_ne ha, up_ne ha, up_ne ha, up_ne ha, up_ne ha, up_ne ha, up_ne ha, up_ne ha, up_ne ha, up_ne ha]
          have r1 : σ1 2 = crow (σ 2) n (nI q) (nI g) := by
            rw [← hσ1]
            funext j
            unfold crow
            simp only [up_at, k2, hC.1]
            repeat' split
            all_goals first | rfl | (exfalso; omega)
          have s61 : σ1 61 = σ 61 := by rw [o1 61 (by decide), hK.1 61 (by decide) (by omega)]
          have s60 : σ1 60 2 = nI m := by rw [o1 60 (by decide), hK.1 60 (by decide) (by omega)]; exact h3
          refine Ec_of rfl (g_128_0 (br_f c0 (br_f c2 (br_f b (br_f b2 (br_t ?_ (c_act s60 hm (fun σa hA => g_128_26 ?_))))))))
          · rw [s61, hR.2.1]
            intro z
            exact h8 ((nI_inj (by omega) (by decide)).mp z)
          · have a61 : σa 61 = σ 61 := by rw [hA.1 61 (by decide) (by decide), s61]
            have a0 : σa 61 0 = nI n := by rw [a61]; exact hR.2.1
            rw [a0]
            refine tp_loop hlt 9 0 σa (by omega) (fun σ2 h5 h6 => ⟨_, rfl, rfl, GI_act ⟨n, hR, hC⟩ hm hnx hold hS hF hK o1 hA h5 ⟨n + 1, ?_, ?_⟩⟩)
            · rw [h6, a61]
              exact RI_new hR hlt hq hg1 hg
            · rw [h6, a61, h5 2 (by decide), hA.1 2 (by decide) (by decide), r1]
              exact CR_new hC hlt
