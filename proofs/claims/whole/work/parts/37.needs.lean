def sub (a b : Nat) : Prop := ∀ i, a.testBit i = true → b.testBit i = true
theorem sub.rf {a : Nat} : sub a a := fun _ h => h
theorem sub.tr {a b c : Nat} (h : sub a b) (g : sub b c) : sub a c := fun i x => g i (h i x)
theorem sub_l {a b : Nat} : sub a (a ||| b) := fun i h => by rw [Nat.testBit_or, h]; rfl
theorem sub_r {a b : Nat} : sub b (a ||| b) := fun i h => by rw [Nat.testBit_or, h, Bool.or_true]
theorem sub_or {a b c : Nat} (h : sub a c) (g : sub b c) : sub (a ||| b) c := fun i x => by
  rw [Nat.testBit_or, Bool.or_eq_true] at x
  exact x.elim (h i) (g i)
theorem sub_eq {a b : Nat} (h : sub a b) (g : sub b a) : a = b := Nat.eq_of_testBit_eq fun i => by
  cases ha : a.testBit i with
  | true => rw [h i ha]
  | false =>
    cases hb : b.testBit i with
    | false => rfl
    | true => rw [g i hb] at ha; cases ha
theorem sub_le {a b : Nat} (h : sub a b) : a ≤ b := by
  have : a ||| b = b := sub_eq (sub_or h sub.rf) sub_r
  rw [← this]
  exact Nat.left_le_or
theorem hi0 {s n i : Nat} (hs : s < 2 ^ n) (hi : n ≤ i) : s.testBit i = false := Nat.testBit_lt_two_pow (Nat.lt_of_lt_of_le hs (Nat.pow_le_pow_right (by decide) hi))
theorem lt256 {s n : Nat} (hn : n ≤ 8) (hs : s < 2 ^ n) : s < 256 := Nat.lt_of_lt_of_le hs (Nat.pow_le_pow_right (by decide) hn)
/-- C is all that the topics of s need, by steps -/
def isCl (N : Nat → Nat) (n s C : Nat) : Prop := C < 2 ^ n ∧ (∀ t, t < n → s.testBit t = true → sub (N t) C) ∧ (∀ t, t < n → C.testBit t = true → sub (N t) C) ∧ ∀ Y, (∀ t, t < n → s.testBit t = true → sub (N t) Y) → (∀ t, t < n → Y.testBit t = true → sub (N t) Y) → sub C Y
theorem isCl_one {N : Nat → Nat} {n s C C' : Nat} (h : isCl N n s C) (h' : isCl N n s C') : C = C' := sub_eq (h.2.2.2 _ h'.2.1 h'.2.2.1) (h'.2.2.2 _ h.2.1 h.2.2.1)
def nd (r : Nat → Int32) (t : Nat) : Nat := (r (1 + 9 * t + 2)).toNatClampNeg
theorem nd_ok {r : Nat → Int32} {n t : Nat} (h : RI r n) (ht : t < n) : r (1 + 9 * t + 2) = nI (nd r t) ∧ nd r t < 2 ^ n := by
  obtain ⟨q, ⟨hq, -⟩, e⟩ := (h.2.2.1 t ht).2.2.1
  have := lt256 h.1 hq
  have e2 : nd r t = q := by
    unfold nd
    rw [e]
    exact nI_clamp (by omega)
  rw [e2]
  exact ⟨e, hq⟩
theorem nd_self {r : Nat → Int32} {n t : Nat} (h : RI r n) (ht : t < n) : (nd r t).testBit t = false := by
  obtain ⟨q, ⟨hq, hs⟩, e⟩ := (h.2.2.1 t ht).2.2.1
  have := lt256 h.1 hq
  have e2 : nd r t = q := by
    unfold nd
    rw [e]
    exact nI_clamp (by omega)
  rw [e2]
  exact hs
theorem one_bit {o t : Nat} : (2 ^ o).testBit t = true ↔ o = t := by
  rw [Nat.testBit_two_pow]
  exact decide_eq_true_iff
/-- the reference's inner loop -/
theorem an_in {S : Nat × (Nat → Int32)} {d n : Nat} {σ : Mem} {o1 : Option MV} {x3 : Int32} {Q : MQ1} (hR : RI (σ 61) n) : ∀ (q o s : Nat), o + q = n → s < 2 ^ n →
    (∀ s', s' < 2 ^ n → sub s s' → (∀ t, o ≤ t → t < n → s.testBit t = true → sub (nd (σ 61) t) s') → (∀ Y, sub s Y → (∀ t, t < n → Y.testBit t = true → sub (nd (σ 61) t) Y) → sub s' Y) → ∀ x : Int32, Ev S (d + 1) 130 7 [some (.inr (some 60)), o1, some (.inl (nI s')), some (.inl x3), some (.inl x)] [] σ Q) →
    Ev S (d + 1) 130 14 [some (.inr (some 60)), o1, some (.inl (nI s)), some (.inl x3), some (.inl (nI o))] [] σ Q
  | 0, o, s, ho, hs, h => by
    have : o = n := by omega
    subst this
    refine g_130_14 ?_
    rw [hR.2.1]
    exact br_t (Int32.le_refl _) (h s hs sub.rf (fun t h1 h2 => by omega) (fun Y h1 _ => h1) _)
  | q + 1, o, s, ho, hs, h => by
    have hn8 := hR.1
    have hs8 := lt256 hn8 hs
    obtain ⟨e, hN⟩ := nd_ok hR (show o < n by omega)
    refine g_130_14 ?_
    rw [hR.2.1]
    refine br_f (nI_ge (by omega) (by omega)) ?_
    rw [show (¬ ((nI s >>> (nI o &&& 31)) &&& 1) = 1) = ¬ (s.testBit o = true) from by rw [bit_1 (by omega) (by omega)]]
    by_cases hb : s.testBit o = true
    · refine br_f (not_not_intro hb) ⟨_, ix9 o 2, by omega, ?_⟩
      rw [e, nI_or, nI_1]
      refine an_in hR q (o + 1) _ (by omega) (Nat.or_lt_two_pow hs hN) (fun s' h1 h2 h3 h4 x => h s' h1 (sub_l.tr h2) (fun t a1 a2 a3 => ?_) (fun Y a1 a2 => h4 Y (sub_or a1 (a2 o (by omega) (a1 o hb))) a2) x)
      by_cases ht : t = o
      · subst ht
        exact sub_r.tr h2
      · exact h3 t (by omega) a2 (sub_l t a3)
    · refine br_t hb ?_
      rw [show nI s ||| 0 = nI s by rw [show (0 : Int32) = nI 0 from rfl, nI_or, Nat.or_zero], nI_1]
      refine an_in hR q (o + 1) s (by omega) hs (fun s' h1 h2 h3 h4 x => h s' h1 h2 (fun t a1 a2 a3 => ?_) h4 x)
      by_cases ht : t = o
      · subst ht
        exact absurd a3 hb
      · exact h3 t (by omega) a2 a3
theorem an_out {S : Nat × (Nat → Int32)} {d n t0 : Nat} {σ : Mem} {o1 : Option MV} {Q : MQ1} (hR : RI (σ 61) n) (ht0 : t0 < n) (hQ : ∀ C, isCl (nd (σ 61)) n (2 ^ t0) C → Q [.inl (nI C)] σ) : ∀ (f s : Nat) (x3 : Int32) (o4 : Option MV), 2 ^ n - s ≤ f → s < 2 ^ n → sub (nd (σ 61) t0) s → (∀ Y, sub (nd (σ 61) t0) Y → (∀ t, t < n → Y.testBit t = true → sub (nd (σ 61) t) Y) → sub s Y) → (x3 = nI s → ∀ t, t < n → s.testBit t = true → sub (nd (σ 61) t) s) → Ev S (d + 1) 130 7 [some (.inr (some 60)), o1, some (.inl (nI s)), some (.inl x3), o4] [] σ Q
  | 0, s, _, _, hf, hs, _, _, _ => by omega
  | f + 1, s, x3, o4, hf, hs, h1, h2, h3 => by
    refine g_130_7 ?_
    by_cases hx : x3 = nI s
    · refine br_t hx (hQ s ⟨hs, fun t ht hb => ?_, h3 hx, fun Y a1 a2 => h2 Y (a1 t0 ht0 (one_bit.mpr rfl)) a2⟩)
      rw [one_bit] at hb
      subst hb
      exact h1
    · refine br_f hx (an_in hR n 0 s (by omega) hs (fun s' a1 a2 a3 a4 x => ?_))
      have hn8 := hR.1
      by_cases he : s' = s
      · subst he
        refine g_130_7 (br_t rfl (hQ s' ⟨hs, fun t ht hb => ?_, fun t ht hb => a3 t (by omega) ht hb, fun Y b1 b2 => h2 Y (b1 t0 ht0 (one_bit.mpr rfl)) b2⟩))
        rw [one_bit] at hb
        subst hb
        exact h1
      · have hle := sub_le a2
        have h8 := lt256 hn8 a1
        refine an_out hR ht0 hQ f s' (nI s) _ (by omega) a1 (h1.tr a2) (fun Y b1 b2 => a4 Y (h2 Y b1 b2) b2) (fun z => ?_)
        exact absurd ((nI_inj (by omega) (by omega)).mp z).symm he
theorem cm_allNeeds {S : Nat × (Nat → Int32)} {d n t0 : Nat} {σ : Mem} {Q : MQ1} (hR : RI (σ 61) n) (ht0 : t0 < n) (hQ : ∀ C, isCl (nd (σ 61)) n (2 ^ t0) C → Q [.inl (nI C)] σ) : Ec S (d + 1) 130 [.inr (some 60), .inl (nI t0)] σ Q := by
  obtain ⟨e, hN⟩ := nd_ok hR ht0
  have hn8 := hR.1
  have h8 := lt256 hn8 hN
  refine Ec_of rfl (g_130_0 ⟨_, ix9 t0 2, by omega, ?_⟩)
  rw [e]
  exact an_out hR ht0 hQ _ _ _ _ (Nat.le_refl _) hN sub.rf (fun Y h _ => h) (fun z => absurd z.symm (nI_m1 (by omega)))
/-- how many of the eight bits stand -/
def pc8 (s : Nat) : Nat := (s.testBit 0).toNat + (s.testBit 1).toNat + (s.testBit 2).toNat + (s.testBit 3).toNat + (s.testBit 4).toNat + (s.testBit 5).toNat + (s.testBit 6).toNat + (s.testBit 7).toNat
theorem b_le {x y : Bool} (h : x = true → y = true) : x.toNat ≤ y.toNat := by
  cases x <;> cases y <;> simp_all
theorem b_eq {x y : Bool} (h : x.toNat = y.toNat) : x = y := by
  cases x <;> cases y <;> simp_all
theorem b_one (x : Bool) : x.toNat ≤ 1 := by cases x <;> decide
theorem pc8_lt {a b : Nat} (h : sub a b) (hne : a ≠ b) (ha : a < 256) (hb : b < 256) : pc8 a < pc8 b := by
  rcases Nat.lt_or_ge (pc8 a) (pc8 b) with q | q
  · exact q
  · exfalso
    apply hne
    have l0 := b_le (h 0)
    have l1 := b_le (h 1)
    have l2 := b_le (h 2)
    have l3 := b_le (h 3)
    have l4 := b_le (h 4)
    have l5 := b_le (h 5)
    have l6 := b_le (h 6)
    have l7 := b_le (h 7)
    unfold pc8 at q
    apply Nat.eq_of_testBit_eq
    intro i
    by_cases hi : i < 8
    · rcases (show i = 0 ∨ i = 1 ∨ i = 2 ∨ i = 3 ∨ i = 4 ∨ i = 5 ∨ i = 6 ∨ i = 7 by omega) with rfl | rfl | rfl | rfl | rfl | rfl | rfl | rfl <;> exact b_eq (by omega)
    · rw [hi0 (n := 8) ha (by omega), hi0 (n := 8) hb (by omega)]
theorem pc8_full {a : Nat} (h : 8 ≤ pc8 a) : ∀ i, i < 8 → a.testBit i = true := by
  unfold pc8 at h
  have l0 := b_one (a.testBit 0)
  have l1 := b_one (a.testBit 1)
  have l2 := b_one (a.testBit 2)
  have l3 := b_one (a.testBit 3)
  have l4 := b_one (a.testBit 4)
  have l5 := b_one (a.testBit 5)
  have l6 := b_one (a.testBit 6)
  have l7 := b_one (a.testBit 7)
  intro i hi
  rcases (show i = 0 ∨ i = 1 ∨ i = 2 ∨ i = 3 ∨ i = 4 ∨ i = 5 ∨ i = 6 ∨ i = 7 by omega) with rfl | rfl | rfl | rfl | rfl | rfl | rfl | rfl <;> exact b_eq (y := true) (by simp only [Bool.toNat_true]; omega)
/-- the system's inner loop -/
theorem cn_in {S : Nat × (Nat → Int32)} {d n f : Nat} {σ : Mem} {x1 x3 : Int32} {Q : MQ1} (hR : RI (σ 61) n) (hC : CR (σ 2) (σ 61) n) (hf : f < 2 ^ n) : ∀ (q t s : Nat), t + q = n → s < 2 ^ n →
    (∀ s', s' < 2 ^ n → sub s s' → (∀ t', t ≤ t' → t' < n → f.testBit t' = true → sub (nd (σ 61) t') s') → (∀ Y, sub s Y → (∀ t', t' < n → f.testBit t' = true → sub (nd (σ 61) t') Y) → sub s' Y) → ∀ x : Int32, Ev S (d + 1) 15 4 [some (.inr (some 1)), some (.inl x1), some (.inl (nI s')), some (.inl (x3 + 1)), some (.inl (nI f)), some (.inl x)] [] σ Q) →
    Ev S (d + 1) 15 13 [some (.inr (some 1)), some (.inl x1), some (.inl (nI s)), some (.inl x3), some (.inl (nI f)), some (.inl (nI t))] [] σ Q
  | 0, t, s, ht, hs, h => by
    have : t = n := by omega
    subst this
    refine g_15_13 ?_
    rw [hC.1]
    exact br_t (Int32.le_refl _) (h s hs sub.rf (fun t' h1 h2 => by omega) (fun Y h1 _ => h1) _)
  | q + 1, t, s, ht, hs, h => by
    have hn8 := hR.1
    have hf8 := lt256 hn8 hf
    obtain ⟨e, hN⟩ := nd_ok hR (show t < n by omega)
    refine g_15_13 ?_
    rw [hC.1]
    refine br_f (nI_ge (by omega) (by omega)) ?_
    by_cases hb : f.testBit t = true
    · refine br_f (fun z => ?_) ⟨_, ix8 2 t, by omega, ?_⟩
      · rw [bit_0 (by omega) (by omega), hb] at z
        cases z
      · rw [hC.2.1 2 (by decide) t (by omega), show fm 2 = 2 from rfl, e, nI_or, nI_1]
        refine cn_in hR hC hf q (t + 1) _ (by omega) (Nat.or_lt_two_pow hs hN) (fun s' h1 h2 h3 h4 x => h s' h1 (sub_l.tr h2) (fun t' a1 a2 a3 => ?_) (fun Y a1 a2 => h4 Y (sub_or a1 (a2 t (by omega) hb)) a2) x)
        by_cases ht' : t' = t
        · subst ht'
          exact sub_r.tr h2
        · exact h3 t' (by omega) a2 a3
    · refine br_t ?_ ?_
      · rw [bit_0 (by omega) (by omega)]
        cases hq : f.testBit t with
        | false => rfl
        | true => exact absurd hq hb
      · rw [nI_1]
        refine cn_in hR hC hf q (t + 1) s (by omega) hs (fun s' h1 h2 h3 h4 x => h s' h1 h2 (fun t' a1 a2 a3 => ?_) h4 x)
        by_cases ht' : t' = t
        · subst ht'
          exact absurd a3 hb
        · exact h3 t' (by omega) a2 a3
theorem cn_out {S : Nat × (Nat → Int32)} {d n g : Nat} {σ : Mem} {Q : MQ1} (hR : RI (σ 61) n) (hC : CR (σ 2) (σ 61) n) (hg : g < 2 ^ n) (hQ : ∀ C, isCl (nd (σ 61)) n g C → Q [.inl (nI C)] σ) : ∀ (q k s : Nat) (o4 o5 : Option MV), k + q = 8 → s < 2 ^ n → (∀ Y, (∀ t, t < n → g.testBit t = true → sub (nd (σ 61) t) Y) → (∀ t, t < n → Y.testBit t = true → sub (nd (σ 61) t) Y) → sub s Y) → ((∀ t, t < n → (g ||| s).testBit t = true → sub (nd (σ 61) t) s) ∨ k ≤ pc8 s) → Ev S (d + 1) 15 4 [some (.inr (some 1)), some (.inl (nI g)), some (.inl (nI s)), some (.inl (nI k)), o4, o5] [] σ Q
  | 0, k, s, o4, o5, hk, hs, h1, h2 => by
    have : k = 8 := by omega
    subst this
    refine g_15_4 (br_t (by decide) (hQ s ?_))
    have hst : ∀ t, t < n → (g ||| s).testBit t = true → sub (nd (σ 61) t) s := by
      rcases h2 with h2 | h2
      · exact h2
      · intro t ht _ i hi
        have hfull := pc8_full h2
        by_cases hi8 : i < 8
        · exact hfull i hi8
        · rw [hi0 (n := 8) (lt256 hR.1 (nd_ok hR ht).2) (by omega)] at hi
          cases hi
    exact ⟨hs, fun t ht hb => hst t ht (sub_l t hb), fun t ht hb => hst t ht (sub_r t hb), h1⟩
  | q + 1, k, s, o4, o5, hk, hs, h1, h2 => by
    refine g_15_4 (br_f (nI_ge (b := 8) (by omega) (by decide)) ?_)
    rw [nI_or]
    refine cn_in hR hC (Nat.or_lt_two_pow hg hs) n 0 s (by omega) hs (fun s' a1 a2 a3 a4 x => ?_)
    rw [nI_1]
    refine cn_out hR hC hg hQ q (k + 1) s' _ _ (by omega) a1 (fun Y b1 b2 => a4 Y (h1 Y b1 b2) (fun t ht hb => ?_)) ?_
    · rw [Nat.testBit_or, Bool.or_eq_true] at hb
      exact hb.elim (b1 t ht) (fun z => b2 t ht (h1 Y b1 b2 t z))
    · by_cases he : s' = s
      · left
        subst he
        exact fun t ht hb => a3 t (by omega) ht hb
      · rcases h2 with h2 | h2
        · exact absurd (sub_eq (a4 s sub.rf h2) a2) he
        · right
          have := pc8_lt a2 (fun z => he z.symm) (lt256 hR.1 hs) (lt256 hR.1 a1)
          omega
theorem cc_allNeeds {S : Nat × (Nat → Int32)} {d n g : Nat} {σ : Mem} {Q : MQ1} (hR : RI (σ 61) n) (hC : CR (σ 2) (σ 61) n) (hg : g < 2 ^ n) (hQ : ∀ C, isCl (nd (σ 61)) n g C → Q [.inl (nI C)] σ) : Ec S (d + 1) 15 [.inr (some 1), .inl (nI g)] σ Q := by
  refine Ec_of rfl (g_15_0 (cn_out hR hC hg hQ 8 0 0 _ _ (by omega) (Nat.pow_pos (by decide)) (fun Y _ _ i h => ?_) (Or.inr (Nat.zero_le _))))
  rw [Nat.zero_testBit] at h
  cases h
