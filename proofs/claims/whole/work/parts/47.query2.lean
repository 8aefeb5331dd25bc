def bc (x0 : Int32) : Int32 := ((((((((x0 - ((((x0 : Int32).toUInt32 >>> ((1 : Int32).toUInt32 &&& Int32.toUInt32 31)).toInt32) &&& 1431655765)) &&& 858993459) + ((((x0 - ((((x0 : Int32).toUInt32 >>> ((1 : Int32).toUInt32 &&& Int32.toUInt32 31)).toInt32) &&& 1431655765) : Int32).toUInt32 >>> ((2 : Int32).toUInt32 &&& Int32.toUInt32 31)).toInt32) &&& 858993459)) + (((((x0 - ((((x0 : Int32).toUInt32 >>> ((1 : Int32).toUInt32 &&& Int32.toUInt32 31)).toInt32) &&& 1431655765)) &&& 858993459) + ((((x0 - ((((x0 : Int32).toUInt32 >>> ((1 : Int32).toUInt32 &&& Int32.toUInt32 31)).toInt32) &&& 1431655765) : Int32).toUInt32 >>> ((2 : Int32).toUInt32 &&& Int32.toUInt32 31)).toInt32) &&& 858993459) : Int32).toUInt32 >>> ((4 : Int32).toUInt32 &&& Int32.toUInt32 31)).toInt32)) &&& 252645135) + (((((((x0 - ((((x0 : Int32).toUInt32 >>> ((1 : Int32).toUInt32 &&& Int32.toUInt32 31)).toInt32) &&& 1431655765)) &&& 858993459) + ((((x0 - ((((x0 : Int32).toUInt32 >>> ((1 : Int32).toUInt32 &&& Int32.toUInt32 31)).toInt32) &&& 1431655765) : Int32).toUInt32 >>> ((2 : Int32).toUInt32 &&& Int32.toUInt32 31)).toInt32) &&& 858993459)) + (((((x0 - ((((x0 : Int32).toUInt32 >>> ((1 : Int32).toUInt32 &&& Int32.toUInt32 31)).toInt32) &&& 1431655765)) &&& 858993459) + ((((x0 - ((((x0 : Int32).toUInt32 >>> ((1 : Int32).toUInt32 &&& Int32.toUInt32 31)).toInt32) &&& 1431655765) : Int32).toUInt32 >>> ((2 : Int32).toUInt32 &&& Int32.toUInt32 31)).toInt32) &&& 858993459) : Int32).toUInt32 >>> ((4 : Int32).toUInt32 &&& Int32.toUInt32 31)).toInt32)) &&& 252645135 : Int32).toUInt32 >>> ((8 : Int32).toUInt32 &&& Int32.toUInt32 31)).toInt32)) + ((((((((x0 - ((((x0 : Int32).toUInt32 >>> ((1 : Int32).toUInt32 &&& Int32.toUInt32 31)).toInt32) &&& 1431655765)) &&& 858993459) + ((((x0 - ((((x0 : Int32).toUInt32 >>> ((1 : Int32).toUInt32 &&& Int32.toUInt32 31)).toInt32) &&& 1431655765) : Int32).toUInt32 >>> ((2 : Int32).toUInt32 &&& Int32.toUInt32 31)).toInt32) &&& 858993459)) + (((((x0 - ((((x0 : Int32).toUInt32 >>> ((1 : Int32).toUInt32 &&& Int32.toUInt32 31)).toInt32) &&& 1431655765)) &&& 858993459) + ((((x0 - ((((x0 : Int32).toUInt32 >>> ((1 : Int32).toUInt32 &&& Int32.toUInt32 31)).toInt32) &&& 1431655765) : Int32).toUInt32 >>> ((2 : Int32).toUInt32 &&& Int32.toUInt32 31)).toInt32) &&& 858993459) : Int32).toUInt32 >>> ((4 : Int32).toUInt32 &&& Int32.toUInt32 31)).toInt32)) &&& 252645135) + (((((((x0 - ((((x0 : Int32).toUInt32 >>> ((1 : Int32).toUInt32 &&& Int32.toUInt32 31)).toInt32) &&& 1431655765)) &&& 858993459) + ((((x0 - ((((x0 : Int32).toUInt32 >>> ((1 : Int32).toUInt32 &&& Int32.toUInt32 31)).toInt32) &&& 1431655765) : Int32).toUInt32 >>> ((2 : Int32).toUInt32 &&& Int32.toUInt32 31)).toInt32) &&& 858993459)) + (((((x0 - ((((x0 : Int32).toUInt32 >>> ((1 : Int32).toUInt32 &&& Int32.toUInt32 31)).toInt32) &&& 1431655765)) &&& 858993459) + ((((x0 - ((((x0 : Int32).toUInt32 >>> ((1 : Int32).toUInt32 &&& Int32.toUInt32 31)).toInt32) &&& 1431655765) : Int32).toUInt32 >>> ((2 : Int32).toUInt32 &&& Int32.toUInt32 31)).toInt32) &&& 858993459) : Int32).toUInt32 >>> ((4 : Int32).toUInt32 &&& Int32.toUInt32 31)).toInt32)) &&& 252645135 : Int32).toUInt32 >>> ((8 : Int32).toUInt32 &&& Int32.toUInt32 31)).toInt32) : Int32).toUInt32 >>> ((16 : Int32).toUInt32 &&& Int32.toUInt32 31)).toInt32)) &&& 63)
theorem bc_ok : ∀ q, q < 64 → bc (nI q) = nI (sumN (fun w => (q.testBit w).toNat) 6) := by decide +kernel
theorem c_bc {S : Nat × (Nat → Int32)} {d q : Nat} {σ : Mem} {Q : MQ1} (hq : q < 64) (h : Q [.inl (nI (sumN (fun w => (q.testBit w).toNat) 6))] σ) : Ec S d 3 [.inl (nI q)] σ Q := by
  refine Ec_of rfl (g_3_0 ?_)
  show Q [.inl (bc (nI q))] σ
  rw [bc_ok q hq]
  exact h
theorem mtd {S : Nat × (Nat → Int32)} {d : Nat} {σ : Mem} {x1 : Int32} {Q : MQ1} (h : ((x1 = 0 → Q [.inl (σ 61 0)] σ) ∧ (x1 = 1 → Q [.inl (nI (sumN (fun w => if σ 61 (79 + w) = 1 then 1 else 0) 6))] σ) ∧ (x1 = 2 → Q [.inl (σ 61 85)] σ) ∧ (x1 = 3 → Q [.inl (σ 60 6)] σ) ∧ ((∀ j : Nat, j < 4 → ¬ x1 = 0 + nI j) → Q [.inl (-100001)] (up σ 60 6 ((σ 60 6) + 1))))) : ∀ (q w : Nat), w + q = 6 → Ev S (d + 1) 175 4 [some (.inr (some 60)), some (.inl x1), some (.inl (nI (sumN (fun w => if σ 61 (79 + w) = 1 then 1 else 0) w))), some (.inl (nI w))] [] σ Q
  | 0, w, hw => by
    have : w = 6 := by omega
    subst this
    exact g_175_4 (br_t (by decide) h)
  | q + 1, w, hw => by
    have ih := mtd (S := S) (d := d) h q (w + 1) (by omega)
    refine g_175_4 (br_f (nI_ge (b := 6) (by omega) (by decide)) ⟨_, ixp 79 w, by omega, ?_⟩)
    have e : sumN (fun j => if σ 61 (79 + j) = 1 then 1 else 0) (w + 1) = sumN (fun j => if σ 61 (79 + j) = 1 then 1 else 0) w + (if σ 61 (79 + w) = 1 then 1 else 0) := rfl
    rw [e] at ih
    rw [ad0, nI_1, nI_1]
    by_cases hs : σ 61 (79 + w) = 1
    · rw [if_pos hs] at ih
      exact br_f (not_not_intro hs) ih
    · rw [if_neg hs] at ih
      exact br_t hs ih
theorem L_told {S : Nat × (Nat → Int32)} {d : Nat} {σ : Mem} {x1 : Int32} (hG : GI σ) : LK S (d + 4) 104 (d + 4) 175 [.inl x1] σ := by
  have hG' := hG
  obtain ⟨⟨n, hR, hC⟩, -, -, hF⟩ := hG'
  obtain ⟨q, hq, e78, hb⟩ := hC.2.2.2.1
  have hsum : sumN (fun w => (q.testBit w).toNat) 6 = sumN (fun w => if σ 61 (79 + w) = 1 then 1 else 0) 6 := sum_eq 6 (fun w hw => by
    have := hb w hw
    cases ht : q.testBit w with
    | true =>
      rw [ht] at this
      rw [if_pos (this.mp rfl)]
      rfl
    | false =>
      rw [ht] at this
      rw [if_neg (fun z => by cases this.mpr z)]
      rfl)
  refine Ec_of rfl (g_104_0 ⟨fun h => ?_, fun h => ?_, fun h => ?_, fun h => ?_, fun h => ?_⟩)
  · subst h
    refine Ec_of rfl (g_175_0 (mtd ⟨fun _ => ?_, fun c => absurd c (by decide), fun c => absurd c (by decide), fun c => absurd c (by decide), fun c => absurd (by decide) (c 0 (by decide))⟩ 6 0 (by omega)))
    rw [hC.1, hR.2.1]
    exact fin_s hG
  · subst h
    rw [e78]
    refine c_bc hq (g_20_5 (g_104_9 (Ec_of rfl (g_175_0 (mtd ⟨fun c => absurd c (by decide), fun _ => ?_, fun c => absurd c (by decide), fun c => absurd c (by decide), fun c => absurd (by decide) (c 1 (by decide))⟩ 6 0 (by omega))))))
    rw [hsum]
    exact fin_s hG
  · subst h
    refine Ec_of rfl (g_175_0 (mtd ⟨fun c => absurd c (by decide), fun c => absurd c (by decide), fun _ => ?_, fun c => absurd c (by decide), fun c => absurd (by decide) (c 2 (by decide))⟩ 6 0 (by omega)))
    rw [hC.2.2.2.2]
    exact fin_s hG
  · subst h
    refine Ec_of rfl (g_175_0 (mtd ⟨fun c => absurd c (by decide), fun c => absurd c (by decide), fun c => absurd c (by decide), fun _ => ?_, fun c => absurd (by decide) (c 3 (by decide))⟩ 6 0 (by omega)))
    rw [hF]
    exact fin_s hG
  · exact Ec_of rfl (g_175_0 (mtd ⟨fun c => absurd (by rw [c]; decide) (h 0 (by decide)), fun c => absurd (by rw [c]; decide) (h 1 (by decide)), fun c => absurd (by rw [c]; decide) (h 2 (by decide)), fun c => absurd (by rw [c]; decide) (h 3 (by decide)), fun _ => fin_f hG⟩ 6 0 (by omega)))
/-! undo -/
theorem mud {S : Nat × (Nat → Int32)} {d m : Nat} {Q : MQ1} (hm : m < 25) : ∀ (q k : Nat) (σ : Mem), k + q = 86 → σ 60 2 = nI m → (∀ σ' : Mem, (∀ a, a ≠ 61 → σ' a = σ a) → (∀ j, k ≤ j → j < 86 → σ' 61 j = σ 62 (86 * m + j)) → (∀ j, j < k → σ' 61 j = σ 61 j) → Q [.inl (nI m)] σ') → Ev S (d + 1) 127 15 [some (.inr (some 60)), some (.inl (nI k))] [] σ Q
  | 0, k, σ, hk, h2, h => by
    have : k = 86 := by omega
    subst this
    refine g_127_15 (br_t (by decide) ?_)
    rw [h2]
    exact h σ (fun _ _ => rfl) (fun j a b => by omega) (fun _ _ => rfl)
  | q + 1, k, σ, hk, h2, h => by
    refine g_127_15 (br_f (nI_ge (b := 86) (by omega) (by decide)) ⟨86 * m + k, by rw [h2, show (86 : Int32) = nI 86 from rfl, pk_mul, nI_add], by omega, k, rfl, by omega, ?_⟩)
    rw [nI_1]
    refine mud hm q (k + 1) _ (by omega) (by rw [up_ne (by decide)]; exact h2) (fun σ' h3 h4 h5 => h σ' (fun a ha => by rw [h3 a ha, up_ne ha]) (fun j a b => ?_) (fun j a => by rw [h5 j (by omega), up_off (by omega)]))
    by_cases e : j = k
    · subst e
      rw [h5 j (by omega), up_self]
    · rw [h4 j (by omega) b, up_ne (by decide)]
theorem L_undo {S : Nat × (Nat → Int32)} {d : Nat} {σ : Mem} (hG : GI σ) : LK S (d + 4) 103 (d + 4) 127 [] σ := by
  have hG' := hG
  obtain ⟨⟨n, hR, hC⟩, ⟨m, nx, hm, hnx, h1, h2, h3, hold⟩, hS, hF⟩ := hG'
  refine Ec_of rfl (g_103_0 ?_)
  rw [h2]
  by_cases hz : m = 0
  · subst hz
    exact br_f (not_not_intro rfl) (Ec_of rfl (g_127_0 (br_f (not_not_intro (by rw [up_ne (by decide)]; exact h3)) (fin_f hG))))
  obtain ⟨p, rfl⟩ : ∃ p, m = p + 1 := ⟨m - 1, by omega⟩
  have nz : ¬ nI (p + 1) = 0 := nI_ne0 (by omega) (by omega)
  refine br_t nz ?_
  have key : ∀ (σ1 : Mem) (nx' : Nat), nx' < 25 → (nx' + 1) % 25 = nx → σ1 24 1 = nI nx' → σ1 24 2 = nI p → (∀ a, a ≠ 2 → a ≠ 24 → σ1 a = σ a) → (∀ k, k < 81 → σ1 2 k = σ (26 + nx') k) → Ec S (d + 4) 127 [.inr (some 60)] σ1 (fun rv2 σ2 => ∃ z : Int32, ([.inl (nI p)] : List MV) = [.inl z] ∧ rv2 = [.inl z] ∧ GI σ2) := by
    intro σ1 nx' hx' hxx a1 a2 a3 a4
    refine Ec_of rfl (g_127_0 (br_t (by rw [a3 60 (by decide) (by decide), h3]; exact nz) (mud (m := p) (by omega) 86 0 _ (by omega) ?_ (fun σ2 b1 b2 b3 => ⟨_, rfl, rfl, ?_⟩))))
    · rw [up_self, a3 60 (by decide) (by decide), h3]
      exact nI_pred p
    have o : ∀ a, a ≠ 2 → a ≠ 24 → a ≠ 60 → a ≠ 61 → σ2 a = σ a := fun a x1 x2 x3 x4 => by rw [b1 a x4, up_ne x3, a3 a x1 x2]
    refine ⟨?_, ⟨p, nx', by omega, hx', ?_, ?_, ?_, fun j hj => ?_⟩, hS.congr (fun a ha => o a (by omega) (by omega) (by omega) (by omega)), ?_⟩
    · have hg := hold p (by omega)
      rw [show (nx + 25 - (p + 1) + p) % 25 = nx' by omega] at hg
      refine hg.congr (fun k hk => ?_) (fun k hk => ?_)
      · rw [b2 k (by omega) hk, up_ne (by decide), a3 62 (by decide) (by decide)]
      · rw [b1 2 (by decide), up_ne (by decide), a4 k hk]
    · rw [b1 24 (by decide), up_ne (by decide), a1]
    · rw [b1 24 (by decide), up_ne (by decide), a2]
    · rw [b1 60 (by decide), up_self, a3 60 (by decide) (by decide), h3]
      exact nI_pred p
    · have hg := hold j (by omega)
      show GR (σ2 (26 + (nx' + 25 - p + j) % 25)) _
      rw [o _ (by omega) (by omega) (by omega) (by omega), o 62 (by decide) (by decide) (by decide) (by decide), show (nx' + 25 - p + j) % 25 = (nx + 25 - (p + 1) + j) % 25 by omega]
      exact hg
    · rw [o 0 (by decide) (by decide) (by decide) (by decide), b1 60 (by decide), up_off (by decide), a3 60 (by decide) (by decide)]
      exact hF
  refine Ec_of rfl (g_27_0 ?_)
  rw [h1]
  by_cases hx : nx = 0
  · subst hx
    refine br_t (by decide) ⟨24, ?_, by decide, 0, 0, 81, rfl, rfl, rfl, by decide, by decide, ?_⟩
    · rw [up_off (by decide), up_self]
      rfl
    · have e24 : ∀ f, upr (up (up σ 24 1 24) 24 2 (up σ 24 1 24 24 2 - 1)) 2 f 24 2 = nI p := fun f => by
        rw [upr_ne (by decide), up_self, up_off (by decide), h2]
        exact nI_pred p
      rw [e24]
      refine g_103_13 (key _ 24 (by decide) (by decide) ?_ (e24 _) (fun a x1 x2 => by rw [upr_ne x1, up_ne x2, up_ne x2]) (fun k hk => ?_))
      · rw [upr_ne (by decide), up_off (by decide), up_self]
        rfl
      · rw [upr_self]
        rw [if_pos (by omega), up_ne (by decide), up_ne (by decide), show 0 + (k - 0) = k by omega]
  · obtain ⟨y, rfl⟩ : ∃ y, nx = y + 1 := ⟨nx - 1, by omega⟩
    have ey : nI (y + 1) - 1 = nI y := nI_pred y
    rw [ey]
    refine br_f (nI_nle (by omega) (by omega)) ⟨y, ?_, by omega, 0, 0, 81, rfl, rfl, rfl, by decide, by decide, ?_⟩
    · rw [up_off (by decide), up_self]
    · have e24 : ∀ f, upr (up (up σ 24 1 (nI y)) 24 2 (up σ 24 1 (nI y) 24 2 - 1)) 2 f 24 2 = nI p := fun f => by
        rw [upr_ne (by decide), up_self, up_off (by decide), h2]
        exact nI_pred p
      rw [e24]
      refine g_103_13 (key _ y (by omega) (by omega) ?_ (e24 _) (fun a x1 x2 => by rw [upr_ne x1, up_ne x2, up_ne x2]) (fun k hk => ?_))
      · rw [upr_ne (by decide), up_off (by decide), up_self]
      · rw [upr_self]
        rw [if_pos (by omega), up_ne (by omega), up_ne (by omega), show 0 + (k - 0) = k by omega]
/-! late -/
def SB (s t : Nat) (P : Nat → Prop) : Prop := ∀ i, s.testBit i = true ↔ i < t ∧ P i
theorem SB_0 {P : Nat → Prop} : SB 0 0 P := fun i => ⟨fun h => (by rw [Nat.zero_testBit] at h; cases h), fun h => absurd h.1 (Nat.not_lt_zero _)⟩
theorem SB_y {s t : Nat} {P : Nat → Prop} (h : SB s t P) (hp : P t) : SB (s ||| 2 ^ t) (t + 1) P := fun i => by
  rw [setb, Bool.or_eq_true, h i, decide_eq_true_iff]
  refine ⟨fun z => z.elim (fun y => ⟨by omega, y.2⟩) (fun y => by subst y; exact ⟨by omega, hp⟩), fun z => ?_⟩
  by_cases e : t = i
  · exact Or.inr e
  · exact Or.inl ⟨by omega, z.2⟩
theorem SB_n {s t : Nat} {P : Nat → Prop} (h : SB s t P) (hp : ¬ P t) : SB s (t + 1) P := fun i => by
  rw [h i]
  refine ⟨fun y => ⟨by omega, y.2⟩, fun z => ⟨?_, z.2⟩⟩
  by_cases e : i = t
  · subst e
    exact absurd z.2 hp
  · omega
theorem SB_lt {s t : Nat} {P : Nat → Prop} (h : SB s t P) : s < 2 ^ t := Nat.lt_pow_two_of_testBit s (fun i hi => by
  cases hb : s.testBit i with
  | false => rfl
  | true =>
    have := ((h i).mp hb).1
    omega)
theorem SB_one {s s' t : Nat} {P : Nat → Prop} (h : SB s t P) (h' : SB s' t P) : s = s' := sub_eq (fun i hi => (h' i).mpr ((h i).mp hi)) (fun i hi => (h i).mpr ((h' i).mp hi))
theorem isCl_0 {N : Nat → Nat} {n : Nat} : isCl N n 0 0 := ⟨Nat.pow_pos (by decide), fun t _ h => (by rw [Nat.zero_testBit] at h; cases h), fun t _ h => (by rw [Nat.zero_testBit] at h; cases h), fun Y _ _ i h => (by rw [Nat.zero_testBit] at h; cases h)⟩
theorem isCl_or {N : Nat → Nat} {n s t C D : Nat} (h : isCl N n s C) (g : isCl N n (2 ^ t) D) : isCl N n (s ||| 2 ^ t) (C ||| D) := by
  refine ⟨Nat.or_lt_two_pow h.1 g.1, fun t' ht' hb => ?_, fun t' ht' hb => ?_, fun Y a b => sub_or (h.2.2.2 Y (fun t' ht' hb => a t' ht' (sub_l t' hb)) b) (g.2.2.2 Y (fun t' ht' hb => a t' ht' (sub_r t' hb)) b)⟩
  · rw [Nat.testBit_or, Bool.or_eq_true] at hb
    exact hb.elim (fun z => (h.2.1 t' ht' z).tr sub_l) (fun z => (g.2.1 t' ht' z).tr sub_r)
  · rw [Nat.testBit_or, Bool.or_eq_true] at hb
    exact hb.elim (fun z => (h.2.2.1 t' ht' z).tr sub_l) (fun z => (g.2.2.1 t' ht' z).tr sub_r)
def laT (r : Nat → Int32) (w t : Nat) : Prop := ¬ r (1 + 9 * t + 6) < nI w
def laA (r : Nat → Int32) (w t : Nat) : Prop := r (1 + 9 * t + 6) < nI w ∧ ¬ r (1 + 9 * t + 6) = -1
theorem cla {S : Nat × (Nat → Int32)} {d n w : Nat} {σ : Mem} {x2 : Int32} {Q : MQ1} (hR : RI (σ 61) n) (hC : CR (σ 2) (σ 61) n) (h : ∀ (a b : Nat) (x : Int32) (o6 : Option MV), SB a n (laA (σ 61) w) → SB b n (laT (σ 61) w) → Ec S (d + 1) 15 [.inr (some 1), .inl (nI b)] σ (fun rv σ' => Ev S (d + 2) 97 50 [some (.inr (some 0)), some (.inl (nI w)), some (.inl x2), some (.inl (nI a)), some (.inl (nI b)), some (.inl x), o6] (rv ++ [.inl (nI a)]) σ' Q)) : ∀ (q t a b : Nat) (o6 : Option MV), t + q = n → SB a t (laA (σ 61) w) → SB b t (laT (σ 61) w) → Ev S (d + 2) 97 13 [some (.inr (some 0)), some (.inl (nI w)), some (.inl x2), some (.inl (nI a)), some (.inl (nI b)), some (.inl (nI t)), o6] [] σ Q
  | 0, t, a, b, o6, ht, ha, hb => by
    have : t = n := by omega
    subst this
    refine g_97_13 ?_
    rw [hC.1]
    exact br_t (Int32.le_refl _) (h a b _ _ ha hb)
  | q + 1, t, a, b, o6, ht, ha, hb => by
    have hn8 := hR.1
    refine g_97_13 ?_
    rw [hC.1]
    refine br_f (nI_ge (by omega) (by omega)) ⟨_, ix8 5 t, by omega, ?_⟩
    rw [show σ 2 (8 * 5 + t) = σ 61 (1 + 9 * t + 6) from (cf hC (show t < n by omega)).2.2.2.2.2.1, set8 (by omega), set8 (by omega), nI_1]
    by_cases h1 : σ 61 (1 + 9 * t + 6) < nI w
    · refine br_t h1 ?_
      by_cases h2 : σ 61 (1 + 9 * t + 6) = -1
      · exact br_t h2 (cla hR hC h q (t + 1) a b _ (by omega) (SB_n ha (fun z => z.2 h2)) (SB_n hb (fun z => z h1)))
      · exact br_f h2 (cla hR hC h q (t + 1) _ b _ (by omega) (SB_y ha ⟨h1, h2⟩) (SB_n hb (fun z => z h1)))
    · exact br_f h1 (cla hR hC h q (t + 1) a _ _ (by omega) (SB_n ha (fun z => h1 z.1)) (SB_y hb h1))
def hsN (r : Nat → Int32) (s t : Nat) : Nat := if s.testBit t = true then hr r t else 0
theorem cho {S : Nat × (Nat → Int32)} {d n s : Nat} {σ : Mem} {Q : MQ1} (hR : RI (σ 61) n) (hC : CR (σ 2) (σ 61) n) (hs : s < 256) (h : Q [.inl (nI (sumN (hsN (σ 61) s) n))] σ) : ∀ (q t : Nat), t + q = n → Ev S (d + 1) 115 4 [some (.inr (some 0)), some (.inl (nI s)), some (.inl (nI (sumN (hsN (σ 61) s) t))), some (.inl (nI t))] [] σ Q
  | 0, t, ht => by
    have : t = n := by omega
    subst this
    refine g_115_4 ?_
    rw [hC.1]
    exact br_t (Int32.le_refl _) h
  | q + 1, t, ht => by
    have hn8 := hR.1
    have ih := cho (S := S) (d := d) hR hC hs h q (t + 1) (by omega)
    have e : sumN (hsN (σ 61) s) (t + 1) = sumN (hsN (σ 61) s) t + hsN (σ 61) s t := rfl
    rw [e] at ih
    unfold hsN at ih
    refine g_115_4 ?_
    rw [hC.1]
    refine br_f (nI_ge (by omega) (by omega)) ?_
    rw [bit_0 (by omega) (by omega), nI_1]
    cases hb : s.testBit t with
    | false =>
      rw [hb, if_neg (by decide)] at ih
      exact br_t rfl ih
    | true =>
      rw [hb, if_pos rfl] at ih
      refine br_f (by decide) ⟨_, ix8 1 t, by omega, ?_⟩
      rw [show σ 2 (8 * 1 + t) = nI (hr (σ 61) t) from (cf hC (show t < n by omega)).2.1.trans (hr_ok hR (show t < n by omega)).1, nI_add]
      exact ih
theorem mla {S : Nat × (Nat → Int32)} {d n w : Nat} {σ : Mem} {x2 : Int32} {Q : MQ1} {o5 o6 : Option MV} (hR : RI (σ 61) n) (h : ∀ (b C : Nat), SB b n (laT (σ 61) w) → isCl (nd (σ 61)) n b C → Ev S (d + 2) 167 39 [some (.inr (some 60)), some (.inl (nI w)), some (.inl x2), some (.inl (nI C)), some (.inl 0), some (.inl 0), some (.inl 0)] [] σ Q) : ∀ (q t b C : Nat), t + q = n → SB b t (laT (σ 61) w) → isCl (nd (σ 61)) n b C → Ev S (d + 2) 167 11 [some (.inr (some 60)), some (.inl (nI w)), some (.inl x2), some (.inl (nI C)), some (.inl (nI t)), o5, o6] [] σ Q
  | 0, t, b, C, ht, hb, hc => by
    have : t = n := by omega
    subst this
    refine g_167_11 ?_
    rw [hR.2.1]
    exact br_t (Int32.le_refl _) (h b C hb hc)
  | q + 1, t, b, C, ht, hb, hc => by
    have hn8 := hR.1
    refine g_167_11 ?_
    rw [hR.2.1, or0]
    refine br_f (nI_ge (by omega) (by omega)) ⟨_, ix9 t 6, by omega, ?_⟩
    rw [nI_1]
    by_cases h1 : σ 61 (1 + 9 * t + 6) < nI w
    · exact br_t h1 (mla hR h q (t + 1) b C (by omega) (SB_n hb (fun z => z h1)) hc)
    · refine br_f h1 (cm_allNeeds hR (by omega) (fun D hD => g_167_27 ?_))
      rw [nI_or, nI_1]
      exact mla hR h q (t + 1) _ _ (by omega) (SB_y hb h1) (isCl_or hc hD)
theorem mlb {S : Nat × (Nat → Int32)} {d n w C s : Nat} {σ : Mem} {x2 : Int32} {Q : MQ1} (hR : RI (σ 61) n) (hw : w < 6) (hC8 : C < 256) (hs : ∀ i, i < n → (s.testBit i = true ↔ C.testBit i = true ∧ laA (σ 61) w i)) (h : (x2 = 0 → ∀ a, SB a n (fun i => s.testBit i = true) → Q [.inl (nI a)] σ) ∧ (¬ x2 = 0 → Q [.inl (nI (sumN (hsN (σ 61) s) n))] σ)) : ∀ (q t a : Nat), t + q = n → SB a t (fun i => s.testBit i = true) → Ev S (d + 2) 167 39 [some (.inr (some 60)), some (.inl (nI w)), some (.inl x2), some (.inl (nI C)), some (.inl (nI a)), some (.inl (nI (sumN (hsN (σ 61) s) t))), some (.inl (nI t))] [] σ Q
  | 0, t, a, ht, ha => by
    have : t = n := by omega
    subst this
    refine g_167_39 ?_
    rw [hR.2.1]
    exact br_t (Int32.le_refl _) ⟨fun z => h.1 z a ha, h.2⟩
  | q + 1, t, a, ht, ha => by
    have hn8 := hR.1
    have hW := (hR.2.2.1 t (by omega)).2.2.2.2.2.2.1
    have e : sumN (hsN (σ 61) s) (t + 1) = sumN (hsN (σ 61) s) t + hsN (σ 61) s t := rfl
    have no : ¬ s.testBit t = true → Ev S (d + 2) 167 39 [some (.inr (some 60)), some (.inl (nI w)), some (.inl x2), some (.inl (nI C)), some (.inl (nI a)), some (.inl (nI (sumN (hsN (σ 61) s) t))), some (.inl (nI (t + 1)))] [] σ Q := fun z => by
      have ih := mlb (S := S) (d := d) hR hw hC8 hs h q (t + 1) a (by omega) (SB_n ha z)
      rw [e] at ih
      unfold hsN at ih
      rw [if_neg z] at ih
      exact ih
    refine g_167_39 ?_
    rw [hR.2.1]
    refine br_f (nI_ge (by omega) (by omega)) ?_
    rw [bit_1 (by omega) (by omega), nI_1]
    by_cases hc : C.testBit t = true
    · refine br_f (not_not_intro hc) ⟨_, ix9 t 6, by omega, ?_⟩
      rw [neg_m1 hW]
      by_cases h1 : σ 61 (1 + 9 * t + 6) = -1
      · exact br_t h1 (no (fun z => ((hs t (by omega)).mp z).2.2 h1))
      · refine br_f h1 ⟨_, ix9 t 6, by omega, ?_⟩
        by_cases h2 : nI w ≤ σ 61 (1 + 9 * t + 6)
        · exact br_t h2 (no (fun z => absurd h2 (Int32.not_le.mpr ((hs t (by omega)).mp z).2.1)))
        · have hb : s.testBit t = true := (hs t (by omega)).mpr ⟨hc, Int32.not_le.mp h2, h1⟩
          refine br_f h2 ⟨_, ix9 t 1, by omega, ?_⟩
          rw [(hr_ok hR (show t < n by omega)).1, nI_add, set8 (by omega)]
          have ih := mlb (S := S) (d := d) hR hw hC8 hs h q (t + 1) _ (by omega) (SB_y ha hb)
          rw [e] at ih
          unfold hsN at ih
          rw [if_pos hb] at ih
          exact ih
    · exact br_t hc (no (fun z => hc ((hs t (by omega)).mp z).1))
theorem L_late {S : Nat × (Nat → Int32)} {d : Nat} {σ : Mem} {x1 x2 : Int32} (hG : GI σ) : LK S (d + 4) 97 (d + 4) 167 [.inl x1, .inl x2] σ := by
  have hG' := hG
  obtain ⟨⟨n, hR, hC⟩, -, -, -⟩ := hG'
  have hn8 := hR.1
  refine Ec_of rfl (g_97_0 ?_)
  rcases ixc x1 (n := 6) (by decide) with c | ⟨c0, c1, c2⟩ | ⟨w, hw, rfl, c0, c1, c2⟩
  · exact br_t c (Ec_of rfl (g_167_0 (br_t c (fin_f hG))))
  · exact br_f c0 (br_f c2 (Ec_of rfl (g_167_0 (br_f c0 (br_t (Int32.lt_of_lt_of_le (by decide) c1) (fin_f hG))))))
  have c5 : ¬ (5 : Int32) < nI w := nI_nlt (a := 5) (by omega) (by decide)
  refine br_f c0 (br_t c1 (cla hR hC (fun a b x o6 ha hb => cc_allNeeds hR hC (SB_lt hb) (fun C hCl => g_97_50 ?_)) n 0 0 0 _ (by omega) SB_0 SB_0))
  rw [nI_and]
  have ha8 := lt256 hn8 (SB_lt ha)
  have hC8 := lt256 hn8 hCl.1
  have hac : a &&& C < 2 ^ n := Nat.lt_of_le_of_lt Nat.and_le_left (SB_lt ha)
  have hac8 := lt256 hn8 hac
  have hbits : ∀ i, i < n → ((a &&& C).testBit i = true ↔ C.testBit i = true ∧ laA (σ 61) w i) := fun i hi => by
    rw [Nat.testBit_and, Bool.and_eq_true, ha i]
    exact ⟨fun z => ⟨z.2, z.1.2⟩, fun z => ⟨⟨hi, z.2⟩, z.1⟩⟩
  have mod : ∀ Q : MQ1, ((x2 = 0 → Q [.inl (nI (a &&& C))] σ) ∧ (¬ x2 = 0 → Q [.inl (nI (sumN (hsN (σ 61) (a &&& C)) n))] σ)) → Ec S (d + 4) 167 [.inr (some 60), .inl (nI w), .inl x2] σ Q := fun Q hQ => by
    refine Ec_of rfl (g_167_0 (br_f c0 (br_f c5 (mla hR (fun b' C' hb' hC' => ?_) n 0 0 0 (by omega) SB_0 isCl_0))))
    have e1 := SB_one hb' hb
    subst e1
    have e2 := isCl_one hC' hCl
    subst e2
    refine mlb (s := a &&& C') hR hw hC8 hbits ⟨fun z a' ha' => ?_, hQ.2⟩ n 0 0 (by omega) SB_0
    have : a' = a &&& C' := SB_one ha' (fun i => ⟨fun z => ⟨?_, z⟩, fun z => z.2⟩)
    · rw [this]
      exact hQ.1 z
    · rcases Nat.lt_or_ge i n with q | q
      · exact q
      · rw [hi0 hac q] at z
        cases z
  refine ⟨fun z => mod _ ⟨fun _ => fin_s hG, fun y => absurd z y⟩, fun z => Ec_of rfl (g_115_0 (cho hR hC hac8 (g_97_57 (mod _ ⟨fun y => absurd y z, fun _ => fin_s hG⟩)) n 0 (by omega)))⟩
