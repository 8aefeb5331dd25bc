theorem b4 {x : Int32} {P R : Prop} (hb : x = 0 ∨ x = 8 ∨ x = 16 ∨ x = 32) (p : P) : (x = 0 → P) ∧ (¬ x = 0 → (x = 8 → P) ∧ (¬ x = 8 → (x = 16 → P) ∧ (¬ x = 16 → (x = 32 → P) ∧ (¬ x = 32 → R)))) := by
  refine ⟨fun _ => p, fun a => ⟨fun _ => p, fun b => ⟨fun _ => p, fun c => ⟨fun _ => p, fun e => ?_⟩⟩⟩⟩
  rcases hb with h | h | h | h
  · exact absurd h a
  · exact absurd h b
  · exact absurd h c
  · exact absurd h e
theorem b4n {x : Int32} {P R : Prop} (hb : ¬ (x = 0 ∨ x = 8 ∨ x = 16 ∨ x = 32)) (p : R) : (x = 0 → P) ∧ (¬ x = 0 → (x = 8 → P) ∧ (¬ x = 8 → (x = 16 → P) ∧ (¬ x = 16 → (x = 32 → P) ∧ (¬ x = 32 → R)))) :=
  ⟨fun a => absurd (Or.inl a) hb, fun _ => ⟨fun a => absurd (Or.inr (Or.inl a)) hb, fun _ => ⟨fun a => absurd (Or.inr (Or.inr (Or.inl a))) hb, fun _ => ⟨fun a => absurd (Or.inr (Or.inr (Or.inr a))) hb, fun _ => p⟩⟩⟩⟩
theorem GI_sh {σ σ' : Mem} (h : GI σ) (e : ∀ a, a = 2 ∨ (24 ≤ a ∧ a < 52) ∨ a = 61 ∨ a = 62 → σ' a = σ a) (e2 : σ' 60 2 = σ 60 2) (e3 : σ' 0 5 = σ' 60 6) (e4 : GS σ') : GI σ' := by
  obtain ⟨hR, hH, hS, hF⟩ := h
  refine ⟨?_, hH.congr (e 24 (by omega)) e2 (fun j hj => e _ (by omega)) (e 62 (by omega)), e4, e3⟩
  rw [e 2 (by omega), e 61 (by omega)]
  exact hR
theorem rn_loop {S : Nat × (Nat → Int32)} {d s : Nat} {o1 o2 : Option MV} {Q : MQ1} (hs : s < 4) : ∀ (q k : Nat) (σ : Mem), k + q = 6 → (∀ σ' : Mem, (∀ a, a ≠ 53 + 2 * s → σ' a = σ a) → (∀ j, j < 6 → σ' (53 + 2 * s) j = if k ≤ j then 0 else σ (53 + 2 * s) j) → Q [.inl (σ' (52 + 2 * s) 2)] σ') → Ev S d 66 12 [some (.inr (some (52 + 2 * s))), o1, o2, some (.inl (nI k))] [] σ Q
  | 0, k, σ, hk, h => by
    have : k = 6 := by omega
    subst this
    exact g_66_12 (isSt_at hs).1 (br_t (by decide) (h σ (fun _ _ => rfl) (fun j hj => by rw [if_neg (by omega)])))
  | q + 1, k, σ, hk, h => by
    refine g_66_12 (isSt_at hs).1 (br_f (nI_ge (b := 6) (by omega) (by decide)) ⟨k, rfl, by omega, ?_⟩)
    rw [nI_1]
    refine rn_loop hs q (k + 1) _ (by omega) (fun σ' h1 h2 => h σ' (fun a ha => by rw [h1 a ha, up_ne ha]) (fun j hj => ?_))
    rw [h2 j hj, up_at]
    by_cases e1 : k + 1 ≤ j
    · rw [if_pos e1, if_pos (by omega)]
    · rw [if_neg e1]
      by_cases e2 : j = k
      · rw [if_pos e2, if_pos (by omega)]
      · rw [if_neg e2, if_neg (by omega)]
theorem c_renew {S : Nat × (Nat → Int32)} {d s : Nat} {σ : Mem} {x2 x3 : Int32} {Q : MQ1} (hs : s < 4) (h : ∀ σ' : Mem, (∀ a, a ≠ 52 + 2 * s → a ≠ 53 + 2 * s → σ' a = σ a) → σ' (52 + 2 * s) 1 = x2 → σ' (52 + 2 * s) 2 = (if x2 = 0 then 0 else x3) → (∀ j, j < 6 → σ' (53 + 2 * s) j = 0) → Q [.inl (if x2 = 0 then 0 else x3)] σ') : Ec S d 66 [.inr (some (52 + 2 * s)), .inl x2, .inl x3] σ Q := by
  refine Ec_of rfl (g_66_0 (isSt_at hs).1 ?_)
  have key : ∀ v : Int32, v = (if x2 = 0 then 0 else x3) → Ev S d 66 12 [some (.inr (some (52 + 2 * s))), some (.inl x2), some (.inl x3), some (.inl 0)] [] (up (up σ (52 + 2 * s) 1 x2) (52 + 2 * s) 2 v) Q := by
    intro v hv
    refine rn_loop hs 6 0 _ (by omega) (fun σ' h1 h2 => ?_)
    have e2 : σ' (52 + 2 * s) 2 = if x2 = 0 then 0 else x3 := by rw [h1 _ (by omega), up_self, hv]
    rw [e2]
    refine h σ' (fun a ha hb => by rw [h1 a hb, up_ne ha, up_ne ha]) ?_ e2 (fun j hj => by rw [h2 j hj, if_pos (by omega)])
    rw [h1 _ (by omega), up_off (by decide), up_self]
  by_cases hx : x2 = 0
  · exact br_f (not_not_intro hx) (key 0 (by rw [if_pos hx]))
  · exact br_t hx (key x3 (by rw [if_neg hx]))
theorem ix6 (s k : Nat) : (6 * nI s) + nI k = nI (6 * s + k) := by rw [show (6 : Int32) = nI 6 from rfl, pk_mul, nI_add]
theorem ms_loop {S : Nat × (Nat → Int32)} {d s : Nat} {o1 o2 : Option MV} {Q : MQ1} (hs : s < 4) : ∀ (q k : Nat) (σ : Mem), k + q = 6 → (∀ σ' : Mem, (∀ a, a ≠ 65 → σ' a = σ a) → (∀ j, σ' 65 j = if 6 * s + k ≤ j ∧ j < 6 * s + 6 then 0 else σ 65 j) → Q [.inl (σ' 64 s)] σ') → Ev S (d + 2) 141 47 [some (.inr (some 60)), some (.inl (nI s)), o1, o2, some (.inl (nI k))] [] σ Q
  | 0, k, σ, hk, h => by
    have : k = 6 := by omega
    subst this
    exact g_141_47 (br_t (by decide) ⟨s, rfl, hs, h σ (fun _ _ => rfl) (fun j => by rw [if_neg (by omega)])⟩)
  | q + 1, k, σ, hk, h => by
    refine g_141_47 (br_f (nI_ge (b := 6) (by omega) (by decide)) ⟨_, ix6 s k, by omega, ?_⟩)
    rw [nI_1]
    refine ms_loop hs q (k + 1) _ (by omega) (fun σ' h1 h2 => h σ' (fun a ha => by rw [h1 a ha, up_ne ha]) (fun j => ?_))
    rw [h2 j, up_at]
    by_cases e1 : 6 * s + (k + 1) ≤ j ∧ j < 6 * s + 6
    · rw [if_pos e1, if_pos (by omega)]
    · rw [if_neg e1]
      by_cases e2 : j = 6 * s + k
      · rw [if_pos e2, if_pos (by omega)]
      · rw [if_neg e2, if_neg (by omega)]
theorem L_sheet {S : Nat × (Nat → Int32)} {d : Nat} {σ : Mem} {x1 x2 x3 : Int32} (hG : GI σ) : LK S (d + 4) 85 (d + 4) 141 [.inl x1, .inl x2, .inl x3] σ := by
  have hS := hG.2.2.1
  refine Ec_of rfl (g_85_0 ?_)
  rcases ixc x1 (n := 4) (by decide) with c | ⟨c0, c1, c2⟩ | ⟨s, hs, rfl, c0, c1, c2⟩
  · exact br_t c (Ec_of rfl (g_141_0 (br_t c (fin_f hG))))
  · exact br_f c0 (br_f c2 (Ec_of rfl (g_141_0 (br_f c0 (br_t (Int32.lt_of_lt_of_le (by decide) c1) (fin_f hG))))))
  have c3 : ¬ (3 : Int32) < nI s := nI_nlt (a := 3) (by omega) (by decide)
  refine br_f c0 (br_t c1 ?_)
  by_cases hb : x2 = 0 ∨ x2 = 8 ∨ x2 = 16 ∨ x2 = 32
  · refine b4 hb ?_
    rcases lec x3 (n := 6) (by decide) with b | ⟨b0, b1, b2⟩ | ⟨k, hk, rfl, b0, b1, b2⟩
    · have b' : ¬ 0 ≤ x3 := Int32.not_le.mpr b
      exact br_f b' (Ec_of rfl (g_141_0 (br_f c0 (br_f c3 (b4 hb (br_f b' (fin_f hG)))))))
    · exact br_t (Int32.not_lt.mp b0) (br_f b2 (Ec_of rfl (g_141_0 (br_f c0 (br_f c3 (b4 hb (br_t (Int32.not_lt.mp b0) (br_f b2 (fin_f hG)))))))))
    refine br_t (Int32.not_lt.mp b0) (br_t b1 ⟨s, _, _, rfl, (isSt_at hs).2, (isSt_at hs).1, c_renew hs (fun σ1 r1 r2 r3 r4 => g_85_38 ?_)⟩)
    refine Ec_of rfl (g_141_0 (br_f c0 (br_f c3 (b4 hb (br_t (Int32.not_lt.mp b0) (br_t b1 ⟨s, rfl, hs, ?_⟩))))))
    have key : ∀ v : Int32, v = (if x2 = 0 then 0 else nI k) → Ev S (d + 2 + 2) 141 47 [some (.inr (some 60)), some (.inl (nI s)), some (.inl x2), some (.inl (nI k)), some (.inl 0)] [] (up (up σ1 63 s x2) 64 s v) (fun rv2 σ2 => ∃ z : Int32, ([.inl (if x2 = 0 then 0 else nI k)] : List MV) = [.inl z] ∧ rv2 = [.inl z] ∧ GI σ2) := by
      intro v hv
      refine ms_loop hs 6 0 _ (by omega) (fun σ2 q1 q2 => ?_)
      have e64 : σ2 64 s = v := by rw [q1 64 (by decide), up_self]
      refine ⟨_, rfl, by rw [e64, hv], GI_sh hG (fun a ha => ?_) ?_ ?_ (fun j hj => ?_)⟩
      · rw [q1 a (by omega), up_ne (by omega), up_ne (by omega), r1 a (by omega) (by omega)]
      · rw [q1 60 (by decide), up_ne (by decide), up_ne (by decide), r1 60 (by omega) (by omega)]
      · rw [q1 0 (by decide), up_ne (by decide), up_ne (by decide), r1 0 (by omega) (by omega), q1 60 (by decide), up_ne (by decide), up_ne (by decide), r1 60 (by omega) (by omega)]
        exact hG.2.2.2
      · have ho := hS j hj
        have o : ∀ a, a ≠ 63 → a ≠ 64 → a ≠ 65 → σ2 a = σ1 a := fun a h1 h2 h3 => by rw [q1 a h3, up_ne h2, up_ne h1]
        rw [o (52 + 2 * j) (by omega) (by omega) (by omega), o (53 + 2 * j) (by omega) (by omega) (by omega)]
        have e63 : σ2 63 = up σ1 63 s x2 63 := by rw [q1 63 (by decide), up_ne (by decide)]
        by_cases hjs : j = s
        · subst hjs
          rw [e64, e63, up_self, r2, r3, hv]
          refine ⟨rfl, rfl, hb, ?_, fun i hi => ?_⟩
          · by_cases hz : x2 = 0
            · exact ⟨0, by decide, by rw [if_pos hz]; rfl⟩
            · exact ⟨k, hk, by rw [if_neg hz]⟩
          · rw [r4 i hi, q2, if_pos (by omega)]
        · have e64' : σ2 64 j = σ 64 j := by rw [q1 64 (by decide), up_off hjs, up_ne (by decide), r1 64 (by omega) (by omega)]
          rw [e64', e63, up_off hjs, r1 63 (by omega) (by omega), r1 (52 + 2 * j) (by omega) (by omega), r1 (53 + 2 * j) (by omega) (by omega)]
          refine ⟨ho.1, ho.2.1, ho.2.2.1, ho.2.2.2.1, fun i hi => ?_⟩
          rw [q2, if_neg (by omega), up_ne (by decide), up_ne (by decide), r1 65 (by omega) (by omega)]
          exact ho.2.2.2.2 i hi
    by_cases hz : x2 = 0
    · exact br_f (not_not_intro hz) ⟨s, rfl, hs, key 0 (by rw [if_pos hz])⟩
    · exact br_t hz ⟨s, rfl, hs, key _ (by rw [if_neg hz])⟩
  · exact b4n hb (Ec_of rfl (g_141_0 (br_f c0 (br_f c3 (b4n hb (fin_f hG))))))
