theorem sub_lt {q k j : Nat} (hq : q ≤ 6) (hk : k < 2 ^ 31) (hj : j < 2 ^ 31) : nI q - nI k < nI j ↔ q < k + j := by
  rw [Int32.lt_iff_toInt_lt, Int32.toInt_sub, nI_toInt (by omega), nI_toInt hk, nI_toInt hj, Int.bmod_eq_of_le (by omega) (by omega)]
  omega
/-- the end of what writes numbers of one sheet -/
theorem GS_num {σ σ1 σ2 : Mem} {s : Nat} (hS : GS σ) (hs : s < 4) (r1 : ∀ a, a ≠ 53 + 2 * s → σ1 a = σ a) (q1 : ∀ a, a ≠ 65 → a ≠ 66 → σ2 a = σ1 a) (q2 : ∀ j, ¬ (6 * s ≤ j ∧ j < 6 * s + 6) → σ2 65 j = σ 65 j) (q3 : ∀ i, i < 6 → σ1 (53 + 2 * s) i = σ2 65 (6 * s + i)) : GS σ2 := by
  intro j hj
  have ho := hS j hj
  rw [q1 (52 + 2 * j) (by omega) (by omega), q1 63 (by decide) (by decide), q1 64 (by decide) (by decide), q1 (53 + 2 * j) (by omega) (by omega), r1 (52 + 2 * j) (by omega), r1 63 (by omega), r1 64 (by omega)]
  refine ⟨ho.1, ho.2.1, ho.2.2.1, ho.2.2.2.1, fun i hi => ?_⟩
  by_cases hjs : j = s
  · subst hjs
    exact q3 i hi
  · rw [r1 (53 + 2 * j) (by omega), q2 _ (by omega)]
    exact ho.2.2.2.2 i hi
theorem GI_num {σ σ1 σ2 : Mem} {s : Nat} (hG : GI σ) (hs : s < 4) (r1 : ∀ a, a ≠ 53 + 2 * s → σ1 a = σ a) (q1 : ∀ a, a ≠ 65 → a ≠ 66 → σ2 a = σ1 a) (q2 : ∀ j, ¬ (6 * s ≤ j ∧ j < 6 * s + 6) → σ2 65 j = σ 65 j) (q3 : ∀ i, i < 6 → σ1 (53 + 2 * s) i = σ2 65 (6 * s + i)) : GI σ2 := by
  refine GI_sh hG (fun a ha => ?_) ?_ ?_ (GS_num hG.2.2.1 hs r1 q1 q2 q3)
  · rw [q1 a (by omega) (by omega), r1 a (by omega)]
  · rw [q1 60 (by omega) (by omega), r1 60 (by omega)]
  · rw [q1 60 (by omega) (by omega), r1 60 (by omega), q1 0 (by omega) (by omega), r1 0 (by omega)]
    exact hG.2.2.2
theorem L_write {S : Nat × (Nat → Int32)} {d : Nat} {σ : Mem} {x1 x2 x3 : Int32} (hG : GI σ) : LK S (d + 4) 86 (d + 4) 142 [.inl x1, .inl x2, .inl x3] σ := by
  have hS := hG.2.2.1
  refine Ec_of rfl (g_86_0 ?_)
  rcases ixc x1 (n := 4) (by decide) with c | ⟨c0, c1, c2⟩ | ⟨s, hs, rfl, c0, c1, c2⟩
  · exact br_t c (Ec_of rfl (g_142_0 (br_t c (fin_f hG))))
  · exact br_f c0 (br_f c2 (Ec_of rfl (g_142_0 (br_f c0 (br_t (Int32.lt_of_lt_of_le (by decide) c1) (fin_f hG))))))
  have c3 : ¬ (3 : Int32) < nI s := nI_nlt (a := 3) (by omega) (by decide)
  obtain ⟨s1, s2, s3, ⟨q, hq, s4⟩, s5⟩ := hS s hs
  have e63 : ∀ v, up σ 0 5 v 63 = σ 63 := fun v => up_ne (by decide)
  have e64 : ∀ v, up σ 0 5 v 64 = σ 64 := fun v => up_ne (by decide)
  refine br_f c0 (br_t c1 ⟨s, _, _, rfl, (isSt_at hs).2, (isSt_at hs).1, ?_⟩)
  rw [s1, s2, s4]
  by_cases hz : σ 63 s = 0
  · exact br_f (not_not_intro hz) (Ec_of rfl (g_142_0 (br_f c0 (br_f c3 ⟨s, rfl, hs, br_f (not_not_intro (by rw [e63]; exact hz)) (fin_f hG)⟩))))
  refine br_t hz ?_
  by_cases b : x2 < 0
  · exact br_t b (Ec_of rfl (g_142_0 (br_f c0 (br_f c3 ⟨s, rfl, hs, br_t (by rw [e63]; exact hz) (br_t b (fin_f hG))⟩))))
  refine br_f b ?_
  obtain ⟨i, hi, rfl⟩ := nI_of b
  rw [show (1 : Int32) = nI 1 from rfl, sub_lt hq (by decide) hi]
  by_cases hl : q < 1 + i
  · refine br_t hl (Ec_of rfl (g_142_0 (br_f c0 (br_f c3 ⟨s, rfl, hs, br_t (by rw [e63]; exact hz) (br_f b ⟨s, rfl, hs, br_f ?_ (fin_f hG)⟩)⟩))))
    rw [e64, s4]
    exact nI_nlt (by omega) hi
  have hi6 : i < 6 := by omega
  refine br_f hl (Ec_of rfl (g_72_0 (isSt_at hs).1 ?_))
  rw [s1]
  have lt : nI i < nI q := nI_lt (by omega) (by omega)
  have fin : ∀ v : Int32, GI (up (up σ (53 + 2 * s) i v) 65 (6 * s + i) v) := fun v => GI_num hG hs (σ1 := up σ (53 + 2 * s) i v) (fun a ha => up_ne ha) (fun a ha _ => up_ne ha) (fun j hj => by rw [up_off (by omega), up_ne (by omega)]) (fun j hj => by
    rw [up_at, up_at]
    by_cases e : j = i
    · rw [if_pos e, if_pos (by omega)]
    · rw [if_neg e, if_neg (by omega), up_ne (by omega)]
      exact s5 j hj)
  have pre : ∀ (v : Int32) (P : Prop), P → P := fun _ _ p => p
  have f63 : ∀ v, up σ (53 + 2 * s) i v 63 = σ 63 := fun v => up_ne (by omega)
  have f64 : ∀ v, up σ (53 + 2 * s) i v 64 s = nI q := fun v => by rw [up_ne (by omega), s4]
  by_cases h8 : σ 63 s = 8
  · exact br_f (not_not_intro h8) ⟨i, rfl, hi6, g_86_32 (Ec_of rfl (g_142_0 (br_f c0 (br_f c3 ⟨s, rfl, hs, br_t (by rw [f63]; exact hz) (br_f b ⟨s, rfl, hs, br_t (by rw [f64]; exact lt) ⟨s, rfl, hs, br_f (not_not_intro (by rw [f63]; exact h8)) ⟨_, ix6 s i, by omega, ⟨_, rfl, rfl, fin _⟩⟩⟩⟩)⟩))))⟩
  · refine br_t h8 ?_
    by_cases h16 : σ 63 s = 16
    · exact br_f (not_not_intro h16) ⟨i, rfl, hi6, g_86_32 (Ec_of rfl (g_142_0 (br_f c0 (br_f c3 ⟨s, rfl, hs, br_t (by rw [f63]; exact hz) (br_f b ⟨s, rfl, hs, br_t (by rw [f64]; exact lt) ⟨s, rfl, hs, br_t (by rw [f63]; exact h8) ⟨s, rfl, hs, br_f (not_not_intro (by rw [f63]; exact h16)) ⟨_, ix6 s i, by omega, ⟨_, rfl, rfl, fin _⟩⟩⟩⟩⟩)⟩))))⟩
    · exact br_t h16 ⟨i, rfl, hi6, g_86_32 (Ec_of rfl (g_142_0 (br_f c0 (br_f c3 ⟨s, rfl, hs, br_t (by rw [f63]; exact hz) (br_f b ⟨s, rfl, hs, br_t (by rw [f64]; exact lt) ⟨s, rfl, hs, br_t (by rw [f63]; exact h8) ⟨s, rfl, hs, br_t (by rw [f63]; exact h16) ⟨_, ix6 s i, by omega, ⟨_, rfl, rfl, fin _⟩⟩⟩⟩⟩)⟩))))⟩
theorem cpA {S : Nat × (Nat → Int32)} {d s f n : Nat} {x3 x4 : Int32} {Q : MQ1} (hs : s < 4) (hf : f + n ≤ 6) : ∀ (q k : Nat) (σ : Mem), k + q = n → (∀ σ' : Mem, (∀ a, a ≠ 66 → σ' a = σ a) → (∀ j, σ' 66 j = if k ≤ j ∧ j < n then σ 65 (6 * s + f + j) else σ 66 j) → Ev S (d + 2) 144 76 [some (.inr (some 60)), some (.inl (nI s)), some (.inl (nI f)), some (.inl x3), some (.inl x4), some (.inl (nI n)), some (.inl 0)] [] σ' Q) → Ev S (d + 2) 144 55 [some (.inr (some 60)), some (.inl (nI s)), some (.inl (nI f)), some (.inl x3), some (.inl x4), some (.inl (nI n)), some (.inl (nI k))] [] σ Q
  | 0, k, σ, hk, h => by
    have : k = n := by omega
    subst this
    exact g_144_55 (br_t (Int32.le_refl _) (h σ (fun _ _ => rfl) (fun j => by rw [if_neg (by omega)])))
  | q + 1, k, σ, hk, h => by
    refine g_144_55 (br_f (nI_ge (by omega) (by omega)) ⟨6 * s + f + k, by rw [ix6, nI_add], by omega, k, rfl, by omega, ?_⟩)
    rw [nI_1]
    refine cpA hs hf q (k + 1) _ (by omega) (fun σ' h1 h2 => h σ' (fun a ha => by rw [h1 a ha, up_ne ha]) (fun j => ?_))
    rw [h2 j, up_at, up_ne (by decide)]
    by_cases e1 : k + 1 ≤ j ∧ j < n
    · rw [if_pos e1, if_pos (by omega)]
    · rw [if_neg e1]
      by_cases e2 : j = k
      · rw [if_pos e2, if_pos (by omega), e2]
      · rw [if_neg e2, if_neg (by omega)]
theorem cpB {S : Nat × (Nat → Int32)} {d t f n : Nat} {o1 o2 : Option MV} {Q : MQ1} (hs : t < 4) (hf : f + n ≤ 6) : ∀ (q k : Nat) (σ : Mem), k + q = n → (∀ σ' : Mem, (∀ a, a ≠ 65 → σ' a = σ a) → (∀ j, σ' 65 j = if 6 * t + f + k ≤ j ∧ j < 6 * t + f + n then σ 66 (j - (6 * t + f)) else σ 65 j) → Q [.inl (nI n)] σ') → Ev S (d + 2) 144 76 [some (.inr (some 60)), o1, o2, some (.inl (nI t)), some (.inl (nI f)), some (.inl (nI n)), some (.inl (nI k))] [] σ Q
  | 0, k, σ, hk, h => by
    have : k = n := by omega
    subst this
    exact g_144_76 (br_t (Int32.le_refl _) (h σ (fun _ _ => rfl) (fun j => by rw [if_neg (by omega)])))
  | q + 1, k, σ, hk, h => by
    refine g_144_76 (br_f (nI_ge (by omega) (by omega)) ⟨k, rfl, by omega, 6 * t + f + k, by rw [ix6, nI_add], by omega, ?_⟩)
    rw [nI_1]
    refine cpB hs hf q (k + 1) _ (by omega) (fun σ' h1 h2 => h σ' (fun a ha => by rw [h1 a ha, up_ne ha]) (fun j => ?_))
    rw [h2 j, up_at, up_ne (by decide)]
    by_cases e1 : 6 * t + f + (k + 1) ≤ j ∧ j < 6 * t + f + n
    · rw [if_pos e1, if_pos (by omega)]
    · rw [if_neg e1]
      by_cases e2 : j = 6 * t + f + k
      · rw [if_pos e2, if_pos (by omega), e2]
        congr 1
        omega
      · rw [if_neg e2, if_neg (by omega)]
theorem L_copy {S : Nat × (Nat → Int32)} {d : Nat} {σ : Mem} {x1 x2 x3 x4 x5 : Int32} (hG : GI σ) : LK S (d + 4) 87 (d + 4) 144 [.inl x1, .inl x2, .inl x3, .inl x4, .inl x5] σ := by
  have hS := hG.2.2.1
  refine Ec_of rfl (g_87_0 ?_)
  rcases ixc x1 (n := 4) (by decide) with c | ⟨c0, c1, c2⟩ | ⟨s, hs, rfl, c0, c1, c2⟩
  · exact br_t c (Ec_of rfl (g_144_0 (br_t c (fin_f hG))))
  · exact br_f c0 (br_f c2 (Ec_of rfl (g_144_0 (br_f c0 (br_t (Int32.lt_of_lt_of_le (by decide) c1) (fin_f hG))))))
  have c3 : ¬ (3 : Int32) < nI s := nI_nlt (a := 3) (by omega) (by decide)
  refine br_f c0 (br_t c1 ?_)
  rcases ixc x3 (n := 4) (by decide) with b | ⟨b0, b1, b2⟩ | ⟨t, ht, rfl, b0, b1, b2⟩
  · exact br_t b (Ec_of rfl (g_144_0 (br_f c0 (br_f c3 (br_t b (fin_f hG))))))
  · exact br_f b0 (br_f b2 (Ec_of rfl (g_144_0 (br_f c0 (br_f c3 (br_f b0 (br_t (Int32.lt_of_lt_of_le (by decide) b1) (fin_f hG))))))))
  have b3 : ¬ (3 : Int32) < nI t := nI_nlt (a := 3) (by omega) (by decide)
  obtain ⟨s1, s2, s3, ⟨q, hq, s4⟩, s5⟩ := hS s hs
  obtain ⟨t1, t2, t3, ⟨p, hp, t4⟩, t5⟩ := hS t ht
  have e63 : ∀ v, up σ 0 5 v 63 = σ 63 := fun v => up_ne (by decide)
  have e64 : ∀ v, up σ 0 5 v 64 = σ 64 := fun v => up_ne (by decide)
  refine br_f b0 (br_t b1 ⟨s, _, _, rfl, (isSt_at hs).2, (isSt_at hs).1, t, _, _, rfl, (isSt_at ht).2, (isSt_at ht).1, ?_⟩)
  rw [s1, s2, s4, t1, t2, t4]
  by_cases hz : σ 63 s = 0
  · exact br_f (not_not_intro hz) (Ec_of rfl (g_144_0 (br_f c0 (br_f c3 (br_f b0 (br_f b3 ⟨s, rfl, hs, br_t (by rw [e63]; exact hz) (fin_f hG)⟩))))))
  refine br_t hz ?_
  by_cases hy : σ 63 t = 0
  · exact br_f (not_not_intro hy) (Ec_of rfl (g_144_0 (br_f c0 (br_f c3 (br_f b0 (br_f b3 ⟨s, rfl, hs, br_f (by rw [e63]; exact hz) ⟨t, rfl, ht, br_f (not_not_intro (by rw [e63]; exact hy)) (fin_f hG)⟩⟩))))))
  refine br_t hy ?_
  by_cases hw : σ 63 s = σ 63 t
  · refine br_f (not_not_intro hw) ?_
    by_cases a2 : x2 < 0
    · exact br_t a2 (Ec_of rfl (g_144_0 (br_f c0 (br_f c3 (br_f b0 (br_f b3 ⟨s, rfl, hs, br_f (by rw [e63]; exact hz) ⟨t, rfl, ht, br_t (by rw [e63]; exact hy) ⟨s, rfl, hs, t, rfl, ht, br_t (by rw [e63]; exact hw) (br_t a2 (fin_f hG))⟩⟩⟩))))))
    refine br_f a2 ?_
    by_cases a5 : x5 < 0
    · exact br_t a5 (Ec_of rfl (g_144_0 (br_f c0 (br_f c3 (br_f b0 (br_f b3 ⟨s, rfl, hs, br_f (by rw [e63]; exact hz) ⟨t, rfl, ht, br_t (by rw [e63]; exact hy) ⟨s, rfl, hs, t, rfl, ht, br_t (by rw [e63]; exact hw) (br_f a2 (br_t a5 (fin_f hG)))⟩⟩⟩))))))
    refine br_f a5 ?_
    obtain ⟨f, hf, rfl⟩ := nI_of a2
    obtain ⟨n, hn, rfl⟩ := nI_of a5
    rw [sub_lt hq hn hf]
    by_cases hl : q < n + f
    · refine br_t hl (Ec_of rfl (g_144_0 (br_f c0 (br_f c3 (br_f b0 (br_f b3 ⟨s, rfl, hs, br_f (by rw [e63]; exact hz) ⟨t, rfl, ht, br_t (by rw [e63]; exact hy) ⟨s, rfl, hs, t, rfl, ht, br_t (by rw [e63]; exact hw) (br_f a2 (br_f a5 ⟨s, rfl, hs, ?_⟩))⟩⟩⟩))))))
      rw [e64, s4]
      by_cases hqn : q < n
      · exact br_t (nI_lt hqn hn) (fin_f hG)
      · refine br_f (nI_nlt (by omega) (by omega)) ⟨s, rfl, hs, ?_⟩
        rw [s4, sub_lt hq hn hf]
        exact br_t hl (fin_f hG)
    refine br_f hl ?_
    by_cases a4 : x4 < 0
    · refine br_t a4 (Ec_of rfl (g_144_0 (br_f c0 (br_f c3 (br_f b0 (br_f b3 ⟨s, rfl, hs, br_f (by rw [e63]; exact hz) ⟨t, rfl, ht, br_t (by rw [e63]; exact hy) ⟨s, rfl, hs, t, rfl, ht, br_t (by rw [e63]; exact hw) (br_f a2 (br_f a5 ⟨s, rfl, hs, ?_⟩))⟩⟩⟩))))))
      rw [e64, s4]
      refine br_f (nI_nlt (by omega) (by omega)) ⟨s, rfl, hs, ?_⟩
      rw [s4, sub_lt hq hn hf]
      exact br_f hl (br_t a4 (fin_f hG))
    refine br_f a4 (br_f a5 ?_)
    obtain ⟨g, hg, rfl⟩ := nI_of a4
    rw [sub_lt hp hn hg]
    by_cases hl2 : p < n + g
    · refine br_t hl2 (Ec_of rfl (g_144_0 (br_f c0 (br_f c3 (br_f b0 (br_f b3 ⟨s, rfl, hs, br_f (by rw [e63]; exact hz) ⟨t, rfl, ht, br_t (by rw [e63]; exact hy) ⟨s, rfl, hs, t, rfl, ht, br_t (by rw [e63]; exact hw) (br_f a2 (br_f a5 ⟨s, rfl, hs, ?_⟩))⟩⟩⟩))))))
      rw [e64, s4]
      refine br_f (nI_nlt (by omega) (by omega)) ⟨s, rfl, hs, ?_⟩
      rw [s4, sub_lt hq hn hf]
      refine br_f hl (br_f a4 (br_f a5 ⟨t, rfl, ht, ?_⟩))
      rw [t4]
      by_cases hqn : p < n
      · exact br_t (nI_lt hqn hn) (fin_f hG)
      · refine br_f (nI_nlt (by omega) (by omega)) ⟨t, rfl, ht, ?_⟩
        rw [t4, sub_lt hp hn hg]
        exact br_t hl2 (fin_f hG)
    refine br_f hl2 (Ec_of rfl (g_73_0 (isSt_at ht).1 (isSt_at hs).1 ⟨f, g, n, rfl, rfl, rfl, by omega, by omega, g_87_58 ?_⟩))
    generalize hτ : upr σ (53 + 2 * t) (fun k => if g ≤ k ∧ k < g + n then σ (53 + 2 * s) (f + (k - g)) else σ (53 + 2 * t) k) = τ
    have to : ∀ a, a ≠ 53 + 2 * t → τ a = σ a := fun a ha => by rw [← hτ, upr_ne ha]
    refine Ec_of rfl (g_144_0 (br_f c0 (br_f c3 (br_f b0 (br_f b3 ⟨s, rfl, hs, br_f (by rw [to 63 (by omega)]; exact hz) ⟨t, rfl, ht, br_t (by rw [to 63 (by omega)]; exact hy) ⟨s, rfl, hs, t, rfl, ht, br_t (by rw [to 63 (by omega)]; exact hw) (br_f a2 (br_f a5 ⟨s, rfl, hs, ?_⟩))⟩⟩⟩)))))
    rw [to 64 (by omega), s4]
    refine br_f (nI_nlt (by omega) (by omega)) ⟨s, rfl, hs, ?_⟩
    rw [s4, sub_lt hq hn hf]
    refine br_f hl (br_f a4 (br_f a5 ⟨t, rfl, ht, ?_⟩))
    rw [t4]
    refine br_f (nI_nlt (by omega) (by omega)) ⟨t, rfl, ht, ?_⟩
    rw [t4, sub_lt hp hn hg]
    refine br_f hl2 (cpA (s := s) (f := f) hs (by omega) n 0 _ (by omega) (fun σ1 r1 r2 => cpB (t := t) (f := g) ht (by omega) n 0 _ (by omega) (fun σ2 q1 q2 => ⟨_, rfl, rfl, GI_num (σ1 := τ) hG ht to (fun a h1 h2 => by rw [q1 a h1, r1 a h2]) (fun j hj => ?_) (fun i hi => ?_)⟩)))
    · rw [q2, if_neg (by omega), r1 65 (by decide), to 65 (by omega)]
    · rw [q2, ← hτ, upr_self]
      by_cases e : g ≤ i ∧ i < g + n
      · rw [if_pos e, if_pos (by omega), r2, if_pos (by omega), to 65 (by omega), s5 _ (by omega)]
        congr 1
        omega
      · rw [if_neg e, if_neg (by omega), r1 65 (by decide), to 65 (by omega)]
        exact t5 i hi
  · exact br_t hw (Ec_of rfl (g_144_0 (br_f c0 (br_f c3 (br_f b0 (br_f b3 ⟨s, rfl, hs, br_f (by rw [e63]; exact hz) ⟨t, rfl, ht, br_t (by rw [e63]; exact hy) ⟨s, rfl, hs, t, rfl, ht, br_f (by rw [e63]; exact hw) (fin_f hG)⟩⟩⟩))))))
