section PLC
variable {S : Nat × (Nat → Int32)} {d n : Nat} {Q : MQ1} {r : Nat → Int32} {aim : Int32} {bm : Bool} {σs : Mem}
theorem lk_m0 {p : Nat → Nat} {A : AS} (hb : bm = false) (h : A.2.1 = 0) : (lk r n bm p A).2.1 = 0 := by
  subst hb
  by_cases hv : VP r n p n
  · by_cases hc : A.1 = 0 ∨ btr A (if false = true then mvP r p n else 0) (evP r n p n)
    · rw [lk_t hv hc]
      rfl
    · rw [lk_w hv hc]
      exact h
  · rw [lk_f hv]
    exact h
theorem c_keepP {p : Nat → Nat} {A : AS} {σ : Mem} (hb : bm = true ↔ aim = 1) (hR : RI r n) (h4 : pos r n ≤ 4) (hI : CI r n aim σs σ p n A) (hv : VP r n p n) (hp : ∀ t, t < n → ¬ r (1 + 9 * t) = 2 → p t < 42) (hc : CB aim bm A (mvP r p n) (evP r n p n)) (h : ∀ σ', CI r n aim σs σ' p n (lk r n bm p A) → Q [] σ') : Ec S (d + 1) 64 [.inr (some 4), .inl (nI (mvP r p n)), .inl (nI (evP r n p n))] σ Q := by
  obtain ⟨i1, ⟨i2, i3⟩, i4, i5, i6, i7, ⟨⟨c, c1, c2, c3, c4⟩, hm0, hbest⟩⟩ := hI
  have hmv := mvP_lt (r := r) (p := p) hR.1
  have hev := evP_lt hR hp
  have hfst : (lk r n bm p A).1 = A.1 + 1 := by
    by_cases hc : A.1 = 0 ∨ btr A (if bm then mvP r p n else 0) (evP r n p n)
    · rw [lk_t hv hc]
    · rw [lk_w hv hc]
  have hm0' : ¬ aim = 1 → (lk r n bm p A).2.1 = 0 := fun z => by
    have hbf : bm = false := by
      cases hbm : bm with
      | false => rfl
      | true => exact absurd (hb.mp hbm) z
    exact lk_m0 hbf (hm0 z)
  refine Ec_of rfl (g_64_0 ?_)
  rw [up_off (j' := 5) (by decide), i2, c1, nI_1]
  by_cases a2 : aim = 2
  · refine br_t a2 (h _ ⟨fun a x y z => by rw [up_ne x]; exact i1 a x y z, ⟨by rw [up_off (by decide)]; exact i2, by rw [up_off (by decide)]; exact i3⟩, fun t' a b => ?_, fun t' a b => ?_, fun w hw => by rw [up_ne (by decide)]; exact i6 w hw, fun w hw => by rw [up_ne (by decide)]; exact i7 w hw, ⟨⟨c + 1, up_self, by omega, fun z => by rw [hfst, c3 z], fun _ => by omega⟩, hm0', fun z => absurd a2 z⟩⟩)
    · exact (i4 t' a b).same (fun j hj => by rw [up_ne (by omega)]) (fun x x1 x2 => up_ne (by have := pos_lt a b; omega))
    · rw [up_ne (by omega)]
      exact i5 t' a b
  · have hcb : A.1 = 0 ∨ btr A (if bm then mvP r p n else 0) (evP r n p n) := hc.resolve_left a2
    refine br_f a2 (kp_loop (r := r) (n := n) h4 n 0 _ (by omega) (by rw [up_off (by decide), up_off (by decide), up_off (by decide)]; exact i3) (fun σ' k1 k2 _ => h σ' ?_))
    generalize hτ : up (up (up σ 4 7 (nI (c + 1))) 4 8 (nI (mvP r p n))) 4 9 (nI (evP r n p n)) = τ at k1 k2
    have tP : ∀ a, a ≠ 4 → τ a = σ a := fun a ha => by rw [← hτ, up_ne ha, up_ne ha, up_ne ha]
    have t4 : ∀ j, j ≠ 7 → j ≠ 8 → j ≠ 9 → τ 4 j = σ 4 j := fun j x y z => by rw [← hτ, up_off z, up_off y, up_off x]
    have s4 : σ' 4 = τ 4 := k1.1 4 (by omega)
    refine ⟨fun a x y z => by rw [k1.1 a z, tP a x]; exact i1 a x y z, ⟨by rw [s4, t4 5 (by decide) (by decide) (by decide)]; exact i2, by rw [s4, t4 6 (by decide) (by decide) (by decide)]; exact i3⟩, fun t' a b => ?_, fun t' a b => ?_, fun w hw => by rw [k1.1 23 (by omega), tP 23 (by decide)]; exact i6 w hw, fun w hw => by rw [k1.1 22 (by omega), tP 22 (by decide)]; exact i7 w hw, ⟨⟨c + 1, ?_, by omega, fun z => absurd z a2, fun _ => by omega⟩, hm0', fun _ _ => ?_⟩⟩
    · have hk := pos_lt a b
      have := k1.2 (pos r t') (by omega)
      exact (i4 t' a b).same (fun j hj => by rw [this.1 j (by omega) (by omega), tP _ (by omega)]) (fun x x1 x2 => by rw [this.2 x x1 x2, tP _ (by omega)])
    · have hk := pos_lt a b
      have := k1.2 (pos r t') (by omega)
      rw [this.1 8 (by decide) (by decide), this.1 9 (by decide) (by decide), tP _ (by omega)]
      exact i5 t' a b
    · rw [s4, ← hτ, up_off (by decide), up_off (by decide), up_self]
    · rw [lk_t hv hcb, s4]
      refine ⟨by rw [← hτ, up_self], fun z => ?_, ?_, by show evP r n p n < 1000000; omega, fun t' a b => ⟨hp t' a b, ?_⟩⟩
      · rw [← hτ, up_off (by decide), up_self, hb.mpr z]
        rfl
      · show (if bm = true then mvP r p n else 0) < 1000
        split <;> omega
      · obtain ⟨u1, u2⟩ := k2 t' (by omega) a b
        rw [u1, u2, tP _ (by omega)]
        exact i5 t' a b
theorem RelC_w {σ : Mem} {A A' : AS} (hA : RelC r n aim σ A) (h2 : ¬ aim = 2) (h0 : 0 < A.1) (h1 : A.1 ≤ A'.1) (he : A'.2 = A.2) : RelC r n aim σ A' := by
  obtain ⟨⟨c, c1, c2, c3, c4⟩, hm0, hbest⟩ := hA
  refine ⟨⟨c, c1, by omega, fun z => absurd z h2, fun _ => c4 h0⟩, fun z => by rw [he]; exact hm0 z, fun z _ => ?_⟩
  rw [he]
  exact hbest z h0
theorem evP_mono {p p' : Nat → Nat} {t : Nat} : ∀ k, evP r n p t ≤ evP r n p (t + k)
  | 0 => Nat.le_refl _
  | k + 1 => Nat.le_trans (evP_mono (p := p) (p' := p') k) evP_le
theorem mvP_mono {p : Nat → Nat} {t : Nat} : ∀ k, mvP r p t ≤ mvP r p (t + k)
  | 0 => Nat.le_refl _
  | k + 1 => Nat.le_trans (mvP_mono k) mvP_le
/-- a prefix's numbers are small -/
theorem pre_lt {p : Nat → Nat} {t : Nat} (hR : RI r n) (ht : t ≤ n) (hp : ∀ t', t' < t → ¬ r (1 + 9 * t') = 2 → p t' < 42) : mvP r p t ≤ 16 ∧ evP r n p t ≤ 50000 := by
  have e : ∀ i, i < t → p i = (fun i => if i < t then p i else 0) i := fun i hi => (if_pos hi).symm
  have hp2 : ∀ t', t' < n → ¬ r (1 + 9 * t') = 2 → (fun i => if i < t then p i else 0) t' < 42 := fun t' a b => by
    show (if t' < t then p t' else 0) < 42
    by_cases h : t' < t
    · rw [if_pos h]
      exact hp t' h b
    · rw [if_neg h]
      omega
  rw [mvP_c e, evP_c e]
  have h1 := mvP_mono (r := r) (p := fun i => if i < t then p i else 0) (t := t) (n - t)
  have h2 := evP_mono (r := r) (n := n) (p := fun i => if i < t then p i else 0) (p' := p) (t := t) (n - t)
  rw [show t + (n - t) = n by omega] at h1 h2
  exact ⟨Nat.le_trans h1 (mvP_lt hR.1), Nat.le_trans h2 (evP_lt hR hp2)⟩
theorem Pc (hb : bm = true ↔ aim = 1) (hR : RI r n) (h4 : pos r n ≤ 4) : ∀ (q t : Nat) (p : Nat → Nat) (A : AS) (σ : Mem) (u d : Nat) (Q : MQ1), t + q = n → pos r t + u = pos r n → CI r n aim σs σ p t A → VP r n p t → (∀ t', t' < t → ¬ r (1 + 9 * t') = 2 → p t' < 42) → CB aim bm A (mvP r p t) (evP r n p t) → A.1 + wb r q t < 2 ^ 30 → (∀ σ', CI r n aim σs σ' p t (goM r n bm q t p A) → Q [] σ') → Ec S (d + 2 * u + 2) 56 [.inr (some 4), .inl (nI (pos r t)), .inl (nI (mvP r p t)), .inl (nI (evP r n p t))] σ Q
  | 0, t, p, A, σ, u, d, Q, ht, hu, hI, hv, hp, hc, hB, h => by
    have : t = n := by omega
    subst this
    refine Ec_of rfl (g_56_0 ?_)
    rw [hI.2.1.2]
    exact br_f (nI_nlt (Nat.le_refl _) (by omega)) (c_keepP hb hR h4 hI hv hp hc (fun σ' hI' => g_56_8 (h σ' hI')))
  | q + 1, t, p, A, σ, u, d, Q, ht, hu, hI, hv, hp, hc, hB, h => by
    have hn8 := hR.1
    by_cases hs : r (1 + 9 * t) = 2
    · have up1 : ∀ (σ : Mem) (A : AS), CI r n aim σs σ p t A ↔ CI r n aim σs σ p (t + 1) A := fun σ A => by
        unfold CI
        have e1 : (∀ t', t' < t → ¬ r (1 + 9 * t') = 2 → σ (6 + 4 * pos r t') 8 = nI (ogf (p t')) ∧ σ (6 + 4 * pos r t') 9 = ogs (p t')) ↔ (∀ t', t' < t + 1 → ¬ r (1 + 9 * t') = 2 → σ (6 + 4 * pos r t') 8 = nI (ogf (p t')) ∧ σ (6 + 4 * pos r t') 9 = ogs (p t')) := by
          refine ⟨fun z t' a b => z t' ?_ b, fun z t' a b => z t' (by omega) b⟩
          rcases Nat.lt_or_ge t' t with w | w
          · exact w
          · have : t' = t := by omega
            subst this
            exact absurd hs b
        have e2 : (∀ w, w < 6 → σ 23 w = nI (ldP r n p t w)) ↔ (∀ w, w < 6 → σ 23 w = nI (ldP r n p (t + 1) w)) := ⟨fun z w hw => by rw [ldP_s hs]; exact z w hw, fun z w hw => by have := z w hw; rw [ldP_s hs] at this; exact this⟩
        rw [e1, e2]
      have ih := Pc hb hR h4 q (t + 1) p A σ u d Q (by omega) (by rw [pos_s hs]; exact hu) ((up1 σ A).mp hI) (VP_s hs hv) (fun t' a b => hp t' (by
        rcases Nat.lt_or_ge t' t with w | w
        · exact w
        · have : t' = t := by omega
          subst this
          exact absurd hs b) b) (by rw [mvP_s hs, evP_s hs]; exact hc) (by rw [show wb r (q + 1) t = wb r q (t + 1) from if_pos hs] at hB; exact hB) (fun σ' hI' => h σ' (by rw [goM_s hs]; exact (up1 σ' _).mpr hI'))
      rw [pos_s hs, mvP_s hs, evP_s hs] at ih
      exact ih
    · have htn : t < n := by omega
      have hpl := pos_lt htn hs
      have hkt : pos r t < 4 := by omega
      have hW : wb r (q + 1) t = 42 * wb r q (t + 1) := if_neg hs
      rw [hW] at hB
      obtain ⟨u', rfl⟩ : ∃ u', u = u' + 1 := ⟨u - 1, by omega⟩
      rw [show d + 2 * (u' + 1) + 2 = (d + 2 * u' + 2) + 2 by omega]
      generalize hD : d + 2 * u' + 2 = D
      rw [goM_n hs] at h
      have hhr := hr_ok hR htn
      have hpre := pre_lt hR (by omega) hp
      have isP := (isPl_at hkt)
      have hplc : ∀ (σ1 : Mem) (A1 : AS), CI r n aim σs σ1 p t A1 → ∀ t', t' < t → ¬ r (1 + 9 * t') = 2 → p t' < 42 ∧ σ1 (6 + 4 * pos r t') 8 = nI (ogf (p t')) := fun σ1 A1 h1 t' a b => ⟨hp t' a b, (h1.2.2.2.1 t' a b).1⟩
      -- goOn, with an option that fits chosen
      have goOn : ∀ (g : Nat) (A1 : AS) (σ1 : Mem) (Q' : MQ1), g < 42 → opc r t g → VP r n (pu p t g) (t + 1) → CI r n aim σs σ1 p t A1 → σ1 (6 + 4 * pos r t) 8 = nI (ogf g) → σ1 (6 + 4 * pos r t) 9 = ogs g → A1.1 + wb r q (t + 1) < 2 ^ 30 → (∀ σ', CI r n aim σs σ' p t (goF r n bm q t p g A1) → Q' [] σ') → Ec S (D + 1) 57 [.inr (some 4), .inl (nI (pos r t)), .inl (nI (mvP r p t) + nI (mv1 r t g)), .inl (nI (evP r n p t))] σ1 Q' := by
        intro g A1 σ1 Q' hg ho hV hI1 e8 e9 hB1 hQ
        have hf := ogf_lt hg
        have hne := pm_ne ho.1
        obtain ⟨i1, ⟨i2, i3⟩, i4, i5, i6, i7, i8⟩ := hI1
        have p5 := (i4 t htn hs).2.2.1
        have emv : mvP r (pu p t g) (t + 1) = mvP r p t + mv1 r t g := by rw [mvP_n hs, pu_s, mvP_c (p := pu p t g) (p' := p) (fun i hi => pu_n (by omega))]
        have eev := evP_grow (n := n) (p := p) hs hg hne
        have hp2 : ∀ t', t' < t + 1 → ¬ r (1 + 9 * t') = 2 → pu p t g t' < 42 := fun t' a b => by
          by_cases e : t' = t
          · subst e
            rw [pu_s]
            exact hg
          · rw [pu_n e]
            exact hp t' (by omega) b
        have hpre2 := pre_lt hR (show t + 1 ≤ n by omega) hp2
        rw [nI_add, ← emv]
        refine Ec_of rfl (g_57_0 ⟨pos r t, _, _, _, _, rfl, isP.2, isP.1, ?_⟩)
        rw [e8, p5]
        refine c58a hf i6 (g_57_12 isP.1 ?_)
        rw [e9]
        refine c58b i6 (g_57_18 isP.1 ?_)
        rw [nI_add, nI_add, ← eev]
        refine c63 hb i2 i8 (by omega) (by omega) (by omega) (fun hcb => g_57_24 isP.1 (br_f (by decide) ?_)) (fun hcb => g_57_24 isP.1 (br_t rfl (hQ σ1 ?_)))
        · -- it is gone on with
          rw [e8, p5]
          refine c59a hf (fun σ2 a1 a2 => g_57_31 isP.1 ?_)
          rw [a1 _ (by omega), e9]
          refine c59b (fun σ3 b1 b2 => g_57_36 isP.1 ?_)
          rw [nI_1, ← pos_n hs, ← hD]
          have f3 : ∀ a, a ≠ 23 → σ3 a = σ1 a := fun a ha => by rw [b1 a ha, a1 a ha]
          have hld : ∀ w, ldP r n (pu p t g) (t + 1) w = ldP r n p t w + cP r t g w := fun w => by
            rw [ldP_n hs, pu_s, ldP_c (p := pu p t g) (p' := p) (fun i hi => pu_n (by omega))]
          have l3 : ∀ w, w < 6 → σ3 23 w = nI (ldP r n (pu p t g) (t + 1) w) := fun w hw => by
            rw [b2 w hw, a2 w hw, i6 w hw, hld]
            unfold cP
            split <;> split <;> simp only [nI_add, nI_1, Nat.add_zero, Nat.zero_add, Nat.add_assoc]
          have hI3 : CI r n aim σs σ3 (pu p t g) (t + 1) A1 := by
            refine ⟨fun a x y z => by rw [f3 a y]; exact i1 a x y z, ⟨by rw [f3 4 (by decide)]; exact i2, by rw [f3 4 (by decide)]; exact i3⟩, fun t' a b => (i4 t' a b).same (fun j hj => by rw [f3 _ (by omega)]) (fun x x1 x2 => f3 x (by have := pos_lt a b; omega)), fun t' a b => ?_, l3, fun w hw => by rw [f3 22 (by decide)]; exact i7 w hw, ?_⟩
            · rw [f3 _ (by omega)]
              by_cases e : t' = t
              · subst e
                rw [pu_s]
                exact ⟨e8, e9⟩
              · rw [pu_n e]
                exact i5 t' (by omega) b
            · unfold RelC
              rw [f3 4 (by decide)]
              refine ⟨i8.1, i8.2.1, fun x y => ?_⟩
              obtain ⟨z1, z2, z3, z4, z5⟩ := i8.2.2 x y
              exact ⟨z1, z2, z3, z4, fun t' a b => by rw [f3 _ (by omega)]; exact z5 t' a b⟩
          refine Pc hb hR h4 q (t + 1) (pu p t g) A1 σ3 u' d _ (by omega) (by rw [pos_n hs]; omega) hI3 hV hp2 hcb hB1 (fun σ4 hI4 => g_57_43 isP.1 ?_)
          obtain ⟨j1, ⟨j2, j3⟩, j4, j5, j6, j7, j8⟩ := hI4
          have q5 := (j4 t htn hs).2.2.1
          obtain ⟨q8, q9⟩ := j5 t (by omega) hs
          rw [pu_s] at q8 q9
          rw [q8, q5]
          refine c59a hf (fun σ5 a3 a4 => g_57_50 isP.1 ?_)
          rw [a3 _ (by omega), q9]
          refine c59b (fun σ6 b3 b4 => g_57_55 (hQ σ6 ?_))
          have f6 : ∀ a, a ≠ 23 → σ6 a = σ4 a := fun a ha => by rw [b3 a ha, a3 a ha]
          rw [goF_t ho.1]
          refine ⟨fun a x y z => by rw [f6 a y]; exact j1 a x y z, ⟨by rw [f6 4 (by decide)]; exact j2, by rw [f6 4 (by decide)]; exact j3⟩, fun t' a b => (j4 t' a b).same (fun j hj => by rw [f6 _ (by omega)]) (fun x x1 x2 => f6 x (by have := pos_lt a b; omega)), fun t' a b => ?_, fun w hw => ?_, fun w hw => by rw [f6 22 (by decide)]; exact j7 w hw, ?_⟩
          · rw [f6 _ (by omega)]
            have := j5 t' (by omega) b
            rw [pu_n (by omega)] at this
            exact this
          · rw [b4 w hw, a4 w hw, j6 w hw, hld]
            unfold cP
            have cx : ∀ x y : Int32, x + y + -y = x := fun x y => by rw [Int32.add_assoc, Int32.add_right_neg, Int32.add_zero]
            by_cases c1 : ogf g = w
            · rw [if_pos c1, if_pos c1, if_neg (show ¬ g % 7 = w + 1 by omega), if_neg (show ¬ g % 7 = w + 1 by omega), Nat.add_zero, ← nI_add, cx]
            · rw [if_neg c1, if_neg c1]
              by_cases c2 : g % 7 = w + 1
              · rw [if_pos c2, if_pos c2, Nat.zero_add, ← nI_1, cx]
              · rw [if_neg c2, if_neg c2]
                rfl
          · unfold RelC
            rw [f6 4 (by decide)]
            refine ⟨j8.1, j8.2.1, fun x y => ?_⟩
            obtain ⟨z1, z2, z3, z4, z5⟩ := j8.2.2 x y
            exact ⟨z1, z2, z3, z4, fun t' a b => by rw [f6 _ (by omega)]; exact z5 t' a b⟩
        · -- it can't become the best
          have n2 : ¬ aim = 2 := fun z => hcb (Or.inl z)
          have n0 : 0 < A1.1 := by
            rcases Nat.eq_zero_or_pos A1.1 with z | z
            · exact absurd (Or.inr (Or.inl z)) hcb
            · exact z
          have hbd := goM_bound (r := r) (n := n) (bm := bm) q (t + 1) (pu p t g) A1 (by omega) n0 (fun z => hcb (Or.inr (Or.inr z)))
          have hle := goM_le (r := r) (n := n) (bm := bm) q (t + 1) (pu p t g) A1
          rw [goF_t ho.1]
          exact ⟨i1, ⟨i2, i3⟩, i4, i5, i6, i7, RelC_w i8 n2 n0 hle.1 hbd.2⟩
      -- the codes from g on
      have loop : ∀ (e1 e2 : Nat), e1 ≤ 6 → e2 ≤ 6 → (∀ f, e1 ≤ f ↔ CE r p t t f) → (∀ f, f < e2 ↔ f < 6 ∧ CL r p t t f) → ∀ (c g : Nat) (A1 : AS) (σ1 : Mem) (o8 : Option MV), g + c = 42 → CI r n aim σs σ1 p t A1 → A1.1 + c * wb r q (t + 1) < 2 ^ 30 → gfold (goF r n bm q t p) c g A1 = gfold (goF r n bm q t p) 42 0 A → Ev S (D + 2) 56 24 [some (.inr (some 4)), some (.inl (nI (pos r t))), some (.inl (nI (mvP r p t))), some (.inl (nI (evP r n p t))), some (.inr (some (6 + 4 * pos r t))), some (.inl (nI e1)), some (.inl (sx e2)), some (.inl (nI (oc r t g))), o8] [] σ1 Q := by
        intro e1 e2 he1 he2 hE1 hE2 c
        induction c with
        | zero =>
          intro g A1 σ1 o8 hg hI1 hB1 hfold
          have : g = 42 := by omega
          subst this
          refine g_56_24 isP.1 ?_
          rw [(hI1.2.2.1 t htn hs).1]
          refine br_t (Int32.le_refl _) (h σ1 ?_)
          rw [← hfold]
          exact hI1
        | succ c IH =>
          intro g A1 σ1 o8 hg hI1 hB1 hfold
          have hfold' : gfold (goF r n bm q t p) c (g + 1) (goF r n bm q t p g A1) = gfold (goF r n bm q t p) 42 0 A := hfold
          rw [Nat.succ_mul] at hB1
          have hFle := goF_le (r := r) (n := n) (bm := bm) (q := q) (t := t) (p := p) (g := g) (A := A1)
          by_cases ho : opc r t g
          · have hlt := oc_lt (show g < 42 by omega) ho
            have hl42 := oc_le (r := r) (t := t) g
            have hP := hI1.2.2.1 t htn hs
            obtain ⟨q1, q2, q3⟩ := hP.2.2.2.2.2 g (by omega) ho
            have hf := ogf_lt (show g < 42 by omega)
            have hle42 := oc_le (r := r) (t := t) 42
            have next : ∀ (o : Option MV) (σ2 : Mem), CI r n aim σs σ2 p t (goF r n bm q t p g A1) → Ev S (D + 2) 56 24 [some (.inr (some 4)), some (.inl (nI (pos r t))), some (.inl (nI (mvP r p t))), some (.inl (nI (evP r n p t))), some (.inr (some (6 + 4 * pos r t))), some (.inl (nI e1)), some (.inl (sx e2)), some (.inl (nI (oc r t g) + 1)), o] [] σ2 Q := fun o σ2 hI2 => by
              rw [nI_1, ← oc_t ho]
              exact IH (g + 1) _ σ2 o (by omega) hI2 (by omega) hfold'
            have stay : ¬ VP r n (pu p t g) (t + 1) → CI r n aim σs σ1 p t (goF r n bm q t p g A1) := fun hno => by
              rw [goF_t ho.1, goM_inv q (t + 1) _ A1 (by omega) hno]
              exact hI1
            have hstep := VP_step (n := n) hs hv ho
            rw [← CE_CL'] at hstep
            refine g_56_24 isP.1 ?_
            rw [hP.1]
            refine br_f (nI_ge hlt (by omega)) ⟨oc r t g, rfl, by omega, ?_⟩
            rw [q1, nI_ltI (by omega) (by omega)]
            by_cases k1 : ogf g < e1
            · refine br_t k1 (next _ σ1 (stay (fun z => ?_)))
              have := (hE1 _).mpr (hstep.mp z).1.1
              omega
            refine br_f k1 ?_
            have esx : sx e2 < nI (ogf g) ↔ e2 < ogf g + 1 := by rw [sx_nI (ogf g), sx_lt (by omega) (by omega)]
            rw [esx]
            by_cases k2 : e2 < ogf g + 1
            · refine br_t k2 (next _ σ1 (stay (fun z => ?_)))
              have := (hE2 _).mpr ⟨hf, (hstep.mp z).1.2⟩
              omega
            refine br_f k2 ⟨oc r t g, rfl, by omega, ?_⟩
            rw [q2, hP.2.2.1]
            refine c60 (t := t) (r := r) hf hI1.2.2.2.2.1 hI1.2.2.2.2.2.1 hv.2 (fun w hw => (rm_ok hR hw).2) hhr.2.2 (pm_ne ho.1) (fun hfit => g_56_48 isP.1 (br_f (by decide) ?_)) (fun hfit => g_56_48 isP.1 (br_t rfl (next _ σ1 (stay (fun z => hfit (hstep.mp z).2)))))
            have hV : VP r n (pu p t g) (t + 1) := hstep.mpr ⟨⟨(hE1 _).mp (by omega), ((hE2 _).mp (by omega)).2⟩, hfit⟩
            refine Ec_of rfl (g_43_0 isP.1 ⟨oc r t g, rfl, by omega, oc r t g, rfl, by omega, g_56_52 isP.1 ⟨oc r t g, rfl, by omega, ?_⟩⟩)
            rw [q1, up_ne (a' := 8 + 4 * pos r t) (by omega), q2]
            generalize hτ : up (up σ1 (6 + 4 * pos r t) 8 (nI (ogf g))) (6 + 4 * pos r t) 9 (ogs g) = τ
            have tP : ∀ a, a ≠ 6 + 4 * pos r t → τ a = σ1 a := fun a ha => by rw [← hτ, up_ne ha, up_ne ha]
            have t6 : ∀ j, j ≠ 8 → j ≠ 9 → τ (6 + 4 * pos r t) j = σ1 (6 + 4 * pos r t) j := fun j x y => by rw [← hτ, up_off y, up_off x]
            rw [tP (9 + 4 * pos r t) (by omega), q3]
            obtain ⟨i1, ⟨i2, i3⟩, i4, i5, i6, i7, i8⟩ := hI1
            have hIτ : CI r n aim σs τ p t A1 := by
              refine ⟨fun a x y z => by rw [tP a (by omega)]; exact i1 a x y z, ⟨by rw [tP 4 (by omega)]; exact i2, by rw [tP 4 (by omega)]; exact i3⟩, fun t' a b => ?_, fun t' a b => ?_, fun w hw => by rw [tP 23 (by omega)]; exact i6 w hw, fun w hw => by rw [tP 22 (by omega)]; exact i7 w hw, ?_⟩
              · refine (i4 t' a b).same (fun j hj => ?_) (fun x x1 x2 => tP x (by omega))
                by_cases e : 6 + 4 * pos r t' = 6 + 4 * pos r t
                · rw [e, t6 j (by omega) (by omega)]
                · rw [tP _ e]
              · have hpp := pos_lt a b
                rw [tP _ (by omega)]
                exact i5 t' a b
              · unfold RelC
                rw [tP 4 (by omega)]
                refine ⟨i8.1, i8.2.1, fun x y => ?_⟩
                obtain ⟨z1, z2, z3, z4, z5⟩ := i8.2.2 x y
                refine ⟨z1, z2, z3, z4, fun t' a b => ?_⟩
                by_cases e : 6 + 4 * pos r t' = 6 + 4 * pos r t
                · rw [e, t6 10 (by decide) (by decide), t6 11 (by decide) (by decide), ← e]
                  exact z5 t' a b
                · rw [tP _ e]
                  exact z5 t' a b
            exact goOn g A1 τ _ (by omega) ho hV hIτ (by rw [← hτ, up_off (by decide), up_self]) (by rw [← hτ, up_self]) (by omega) (fun σ' hI' => g_56_62 isP.1 (next _ σ' hI'))
          · have hsame : goF r n bm q t p g A1 = A1 := by
              by_cases hpm : pmg r t g
              · rw [goF_t hpm]
                refine goM_inv q (t + 1) _ A1 (by omega) (fun z => ho ⟨hpm, ?_⟩)
                have := (z.1 t (by omega) hs).1
                rw [pu_s] at this
                exact this
              · exact goF_f hpm
            rw [hsame] at hfold'
            have := IH (g + 1) A1 σ1 o8 (by omega) hI1 (by omega) hfold'
            rw [oc_f ho] at this
            exact this
      have vac : ∀ f, CE r p t 0 f := fun f a ha => absurd ha (Nat.not_lt_zero _)
      have vac2 : ∀ f, CL r p t 0 f := fun f a ha => absurd ha (Nat.not_lt_zero _)
      refine Ec_of rfl (g_56_0 ?_)
      rw [hI.2.1.2]
      refine br_t (nI_lt hpl (by omega)) ⟨pos r t, _, _, _, _, rfl, isP.2, isP.1, Ec_of rfl (g_61_0 ⟨pos r t, _, _, _, _, rfl, isP.2, isP.1, ef_loop hR h4 htn hs hI.2.2.1 (hplc σ A hI) (fun e1 he1 hE1 => g_56_17 isP.1 (Ec_of rfl (g_62_0 ⟨pos r t, _, _, _, _, rfl, isP.2, isP.1, lf_loop hR h4 htn hs hI.2.2.1 (hplc σ A hI) (fun e2 he2 hE2 => g_56_21 isP.1 ?_) t 0 6 _ (by omega) (by omega) (fun f => ⟨fun z => ⟨z, vac2 f⟩, fun z => z.1⟩)⟩))) t 0 0 _ (by omega) (by omega) (fun f => ⟨fun _ => vac f, fun _ => Nat.zero_le _⟩)⟩)⟩
      exact loop e1 e2 he1 he2 hE1 hE2 42 0 A σ _ (by omega) hI (by omega) rfl
end PLC
