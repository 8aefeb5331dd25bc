def rt (r : Nat → Int32) (t : Nat) : Nat := (r (1 + 9 * t + 3)).toNatClampNeg
def rit (r : Nat → Int32) (t f : Nat) (y : Int32) : Prop := (r (1 + 9 * t + 3) = 0 → y = -1) ∧ (¬ r (1 + 9 * t + 3) = 0 → ∃ v, v < 6 ∧ y = nI v ∧ ¬ r (79 + v) = 1 ∧ f < v ∧ v ≤ f + rt r t)
def aot (r : Nat → Int32) (t f : Nat) (y : Int32) : Prop := (r (1 + 9 * t) = 1 ∨ r (1 + 9 * t) = 3) → nI f < r 85 ∧ y < r 85
def bes (r : Nat → Int32) (t : Nat) (x : Int32) : Prop := ∀ p, p < 8 → r (1 + 9 * t + 5) = nI p → r (1 + 9 * p) = 2 ∨ r (1 + 9 * p + 6) = x
def ahd (r : Nat → Int32) (n t : Nat) (x : Int32) : Prop := ∀ o, o < n → (nd r t).testBit o = true → ¬ r (1 + 9 * o) = 2 → r (1 + 9 * o + 6) < x
def PL (r : Nat → Int32) (n : Nat) : Nat → Nat → Prop
  | 1, t => ¬ r (1 + 9 * t + 6) = -1
  | 2, t => ∃ f, f < 6 ∧ r (1 + 9 * t + 6) = nI f ∧ ¬ r (79 + f) = 1
  | 3, t => ahd r n t (r (1 + 9 * t + 6))
  | 4, t => ∃ f, f < 6 ∧ r (1 + 9 * t + 6) = nI f ∧ rit r t f (r (1 + 9 * t + 7))
  | _, t => ∃ f, f < 6 ∧ r (1 + 9 * t + 6) = nI f ∧ aot r t f (r (1 + 9 * t + 7)) ∧ bes r t (nI f)
theorem rt_ok {r : Nat → Int32} {n t : Nat} (h : RI r n) (ht : t < n) : r (1 + 9 * t + 3) = nI (rt r t) ∧ rt r t ≤ 9 := by
  obtain ⟨q, h2, e⟩ := (h.2.2.1 t ht).2.2.2.1
  have e2 : rt r t = q := by
    unfold rt
    rw [e]
    exact nI_clamp (by omega)
  rw [e2]
  exact ⟨e, h2⟩
theorem one_f {a b : Nat} (ha : a < 6) (hb : b < 6) (h : nI a = nI b) : a = b := (nI_inj (by omega) (by omega)).mp h
theorem t2 {a b c : Int32} {R0 R1 : Prop} (h1 : b < a ∧ c < a → R1) (h0 : ¬ (b < a ∧ c < a) → R0) : (a ≤ b → R0) ∧ (¬ a ≤ b → (a ≤ c → R0) ∧ (¬ a ≤ c → R1)) :=
  ⟨fun z => h0 (fun q => absurd z (Int32.not_le.mpr q.1)), fun z => ⟨fun y => h0 (fun q => absurd y (Int32.not_le.mpr q.2)), fun y => h1 ⟨Int32.not_le.mp z, Int32.not_le.mp y⟩⟩⟩
/-! the reference's keeps, law by law -/
section MK
variable {S : Nat × (Nat → Int32)} {d n t f : Nat} {σ : Mem} {Q : MQ1}
theorem mk1 (hR : RI (σ 61) n) (ht : t < n) (h1 : PL (σ 61) n 1 t → Q [.inl 1] σ) (h0 : ¬ PL (σ 61) n 1 t → Q [.inl 0] σ) : Ec S (d + 2) 150 [.inr (some 60), .inl 1, .inl (nI t)] σ Q := by
  have hn8 := hR.1
  refine Ec_of rfl (g_150_0 ⟨_, ix9 t 6, by omega, _, ix9 t 7, by omega, fun _ => ?_, fun c => absurd c (by decide), fun c => absurd c (by decide), fun c => absurd c (by decide), fun c => absurd (by decide) (c 0 (by decide))⟩)
  rcases (hR.2.2.1 t ht).2.2.2.2.2.2.1 with e | ⟨w, hw, e⟩
  · exact br_t (by rw [e]; decide) (h0 (fun z => z e))
  · exact br_f (by rw [e]; exact nI_pos (by omega)) (h1 (fun z => nI_m1 (by omega) (e.symm.trans z)))
theorem mk2 (ht : t < 8) (hf : f < 6) (e : σ 61 (1 + 9 * t + 6) = nI f) (h1 : ¬ σ 61 (79 + f) = 1 → Q [.inl 1] σ) (h0 : σ 61 (79 + f) = 1 → Q [.inl 0] σ) : Ec S (d + 2) 150 [.inr (some 60), .inl 2, .inl (nI t)] σ Q := by
  refine Ec_of rfl (g_150_0 ⟨_, ix9 t 6, by omega, _, ix9 t 7, by omega, fun c => absurd c (by decide), fun _ => ⟨79 + f, by rw [e]; exact ixp 79 f, by omega, fun z => h1 z, fun z => h0 (Decidable.not_not.mp z)⟩, fun c => absurd c (by decide), fun c => absurd c (by decide), fun c => absurd (by decide) (c 1 (by decide))⟩)
theorem mk3_loop (hR : RI (σ 61) n) (ht : t < n) {o1 o4 o7 o8 o9 : Option MV} (h1 : PL (σ 61) n 3 t → Q [.inl 1] σ) (h0 : ¬ PL (σ 61) n 3 t → Q [.inl 0] σ) : ∀ (q o : Nat) (x5 : Int32), o + q = n → ((x5 = 1 ∧ ∀ o', o' < o → (nd (σ 61) t).testBit o' = true → ¬ σ 61 (1 + 9 * o') = 2 → σ 61 (1 + 9 * o' + 6) < σ 61 (1 + 9 * t + 6)) ∨ (x5 = 0 ∧ ¬ PL (σ 61) n 3 t)) → Ev S (d + 2) 150 30 [some (.inr (some 60)), o1, some (.inl (nI t)), some (.inl (σ 61 (1 + 9 * t + 6))), o4, some (.inl x5), some (.inl (nI o)), o7, o8, o9] [] σ Q
  | 0, o, x5, ho, hx => by
    have : o = n := by omega
    subst this
    refine g_150_30 ?_
    rw [hR.2.1]
    rcases hx with ⟨rfl, hx⟩ | ⟨rfl, hx⟩
    · exact br_t (Int32.le_refl _) ⟨Or.inr rfl, h1 hx⟩
    · exact br_t (Int32.le_refl _) ⟨Or.inl rfl, h0 hx⟩
  | q + 1, o, x5, ho, hx => by
    have hn8 := hR.1
    obtain ⟨eN, hN⟩ := nd_ok hR ht
    have hN8 := lt256 hn8 hN
    have a1 : x5 &&& 1 = x5 := by rcases hx with ⟨rfl, -⟩ | ⟨rfl, -⟩ <;> decide
    have a0 : x5 &&& 0 = 0 := by rcases hx with ⟨rfl, -⟩ | ⟨rfl, -⟩ <;> decide
    have keep : ((nd (σ 61) t).testBit o = true → ¬ σ 61 (1 + 9 * o) = 2 → σ 61 (1 + 9 * o + 6) < σ 61 (1 + 9 * t + 6)) → ((x5 = 1 ∧ ∀ o', o' < o + 1 → (nd (σ 61) t).testBit o' = true → ¬ σ 61 (1 + 9 * o') = 2 → σ 61 (1 + 9 * o' + 6) < σ 61 (1 + 9 * t + 6)) ∨ (x5 = 0 ∧ ¬ PL (σ 61) n 3 t)) := fun hk => by
      rcases hx with ⟨a, b⟩ | hx
      · refine Or.inl ⟨a, fun o' ho' => ?_⟩
        by_cases e : o' = o
        · subst e
          exact hk
        · exact b o' (by omega)
      · exact Or.inr hx
    refine g_150_30 ?_
    rw [hR.2.1]
    refine br_f (nI_ge (by omega) (by omega)) ⟨_, ix9 t 2, by omega, ?_⟩
    rw [eN, bit_0 (by omega) (by omega), a1, a0, nI_1]
    cases hb : (nd (σ 61) t).testBit o with
    | false => exact br_t rfl (mk3_loop hR ht h1 h0 q (o + 1) x5 (by omega) (keep (fun z => by rw [hb] at z; cases z)))
    | true =>
      refine br_f (by decide) ⟨_, ix90 o, by omega, ?_⟩
      by_cases hs : σ 61 (1 + 9 * o) = 2
      · exact br_f (not_not_intro hs) (mk3_loop hR ht h1 h0 q (o + 1) x5 (by omega) (keep (fun _ z => absurd hs z)))
      · refine br_t hs ⟨_, ix9 o 6, by omega, ?_⟩
        by_cases hl : σ 61 (1 + 9 * t + 6) ≤ σ 61 (1 + 9 * o + 6)
        · exact br_t hl (mk3_loop hR ht h1 h0 q (o + 1) 0 (by omega) (Or.inr ⟨rfl, fun z => absurd hl (Int32.not_le.mpr (z o (by omega) hb hs))⟩))
        · exact br_f hl (mk3_loop hR ht h1 h0 q (o + 1) x5 (by omega) (keep (fun _ _ => Int32.not_le.mp hl)))
theorem mk3 (hR : RI (σ 61) n) (ht : t < n) (h1 : PL (σ 61) n 3 t → Q [.inl 1] σ) (h0 : ¬ PL (σ 61) n 3 t → Q [.inl 0] σ) : Ec S (d + 2) 150 [.inr (some 60), .inl 3, .inl (nI t)] σ Q := by
  have hn8 := hR.1
  exact Ec_of rfl (g_150_0 ⟨_, ix9 t 6, by omega, _, ix9 t 7, by omega, fun c => absurd c (by decide), fun c => absurd c (by decide), fun _ => mk3_loop hR ht h1 h0 n 0 1 (by omega) (Or.inl ⟨rfl, fun o' h => absurd h (Nat.not_lt_zero _)⟩), fun c => absurd c (by decide), fun c => absurd (by decide) (c 2 (by decide))⟩)
theorem mk4 (ht : t < 8) (hf : f < 6) (hr : ∃ q, q ≤ 9 ∧ σ 61 (1 + 9 * t + 3) = nI q) (e : σ 61 (1 + 9 * t + 6) = nI f) (hw : isW (σ 61 (1 + 9 * t + 7))) (h1 : rit (σ 61) t f (σ 61 (1 + 9 * t + 7)) → Q [.inl 1] σ) (h0 : ¬ rit (σ 61) t f (σ 61 (1 + 9 * t + 7)) → Q [.inl 0] σ) : Ec S (d + 2) 150 [.inr (some 60), .inl 4, .inl (nI t)] σ Q := by
  obtain ⟨q, hq, er⟩ := hr
  have ert : rt (σ 61) t = q := by
    unfold rt
    rw [er]
    exact nI_clamp (by omega)
  refine Ec_of rfl (g_150_0 ⟨_, ix9 t 6, by omega, _, ix9 t 7, by omega, fun c => absurd c (by decide), fun c => absurd c (by decide), fun c => absurd c (by decide), fun _ => ⟨_, ix9 t 3, by omega, ?_⟩, fun c => absurd (by decide) (c 3 (by decide))⟩)
  unfold rit at h1 h0
  rw [ert] at h1 h0
  rw [e]
  by_cases hz : σ 61 (1 + 9 * t + 3) = 0
  · refine br_f (not_not_intro hz) ?_
    rcases hw with e7 | ⟨v, hv, e7⟩
    · exact br_f (by rw [e7]; decide) (h1 ⟨fun _ => e7, fun z => absurd hz z⟩)
    · exact br_t (by rw [e7]; exact nI_pos' (by omega)) (h0 (fun z => nI_m1 (by omega) (e7.symm.trans (z.1 hz))))
  · refine br_t hz ?_
    rcases hw with e7 | ⟨v, hv, e7⟩
    · refine br_t (by rw [e7]; decide) (h0 (fun z => ?_))
      obtain ⟨v, hv, e8, -⟩ := z.2 hz
      exact nI_m1 (by omega) (e8.symm.trans e7)
    · have hno : ∀ P : Prop, (¬ σ 61 (79 + v) = 1 ∧ f < v ∧ v ≤ f + q → P) → ((σ 61 (1 + 9 * t + 3) = 0 → σ 61 (1 + 9 * t + 7) = -1) ∧ (¬ σ 61 (1 + 9 * t + 3) = 0 → ∃ v, v < 6 ∧ σ 61 (1 + 9 * t + 7) = nI v ∧ ¬ σ 61 (79 + v) = 1 ∧ f < v ∧ v ≤ f + q)) → P := fun P hP z => by
        obtain ⟨v', hv', e8, k⟩ := z.2 hz
        have : v = v' := one_f hv hv' (e7.symm.trans e8)
        subst this
        exact hP k
      refine br_f (by rw [e7]; exact nI_pos (by omega)) ⟨79 + v, by rw [e7]; exact ixp 79 v, by omega, ?_⟩
      by_cases hs : σ 61 (79 + v) = 1
      · exact br_f (not_not_intro hs) (h0 (fun z => hno False (fun k => k.1 hs) z))
      · refine br_t hs ?_
        have d1 : σ 61 (1 + 9 * t + 7) - nI f < 1 ↔ v < 1 + f := by
          rw [e7, Int32.lt_iff_toInt_lt, Int32.toInt_sub, nI_toInt (by omega), nI_toInt (by omega), Int.bmod_eq_of_le (by omega) (by omega), show (1 : Int32).toInt = 1 from rfl]
          omega
        by_cases hl : v < 1 + f
        · exact br_t (d1.mpr hl) (h0 (fun z => hno False (fun k => by omega) z))
        · refine br_f (fun z => hl (d1.mp z)) ⟨_, ix9 t 3, by omega, ?_⟩
          have d2 : σ 61 (1 + 9 * t + 3) < σ 61 (1 + 9 * t + 7) - nI f ↔ q + f < v := by
            rw [er, e7, Int32.lt_iff_toInt_lt, Int32.toInt_sub, nI_toInt (by omega), nI_toInt (by omega), nI_toInt (by omega), Int.bmod_eq_of_le (by omega) (by omega)]
            omega
          by_cases hl2 : q + f < v
          · exact br_t (d2.mpr hl2) (h0 (fun z => hno False (fun k => by omega) z))
          · exact br_f (fun z => hl2 (d2.mp z)) (h1 ⟨fun z => absurd z hz, fun _ => ⟨v, hv, e7, hs, by omega, by omega⟩⟩)
theorem mk5 (hR : RI (σ 61) n) (ht : t < n) (hf : f < 6) (e : σ 61 (1 + 9 * t + 6) = nI f) (h1 : PL (σ 61) n 5 t → Q [.inl 1] σ) (h0 : ¬ PL (σ 61) n 5 t → Q [.inl 0] σ) : Ec S (d + 2) 150 [.inr (some 60), .inl 5, .inl (nI t)] σ Q := by
  have hn8 := hR.1
  have hT := hR.2.2.1 t ht
  have hp := hT.2.2.2.2.2.1
  have h1' : (aot (σ 61) t f (σ 61 (1 + 9 * t + 7)) ∧ bes (σ 61) t (nI f)) → Q [.inl 1] σ := fun z => h1 ⟨f, hf, e, z.1, z.2⟩
  have h0' : ¬ (aot (σ 61) t f (σ 61 (1 + 9 * t + 7)) ∧ bes (σ 61) t (nI f)) → Q [.inl 0] σ := fun z => h0 (fun ⟨f', hf', e', a, b⟩ => by
    have : f = f' := one_f hf hf' (e.symm.trans e')
    subst this
    exact z ⟨a, b⟩)
  refine Ec_of rfl (g_150_0 ⟨_, ix9 t 6, by omega, _, ix9 t 7, by omega, fun c => absurd c (by decide), fun c => absurd c (by decide), fun c => absurd c (by decide), fun c => absurd c (by decide), fun _ => ⟨_, ix90 t, by omega, ?_⟩⟩)
  rw [e]
  by_cases k1 : σ 61 (1 + 9 * t) = 1
  · have k3 : ¬ σ 61 (1 + 9 * t) = 3 := by rw [k1]; decide
    have hb : bes (σ 61) t (nI f) := fun p hp8 z => absurd z (by rw [hT.2.2.2.2.2.2.2.2.2.2 k3]; exact fun q => nI_m1 (by omega) q.symm)
    exact br_t k1 ⟨_, ix90 t, by omega, br_t k3 (t2 (fun z => h1' ⟨fun _ => z, hb⟩) (fun z => h0' (fun y => z (y.1 (Or.inl k1)))))⟩
  · refine br_f k1 ⟨_, ix90 t, by omega, ?_⟩
    by_cases k3 : σ 61 (1 + 9 * t) = 3
    · refine br_f (not_not_intro k3) ⟨_, ix90 t, by omega, br_f (not_not_intro k3) ⟨_, ix9 t 5, by omega, ?_⟩⟩
      rcases hp with ep | ⟨p, hpn, hpt, ep⟩
      · have hb : bes (σ 61) t (nI f) := fun p hp8 z => absurd z (by rw [ep]; exact fun q => nI_m1 (by omega) q.symm)
        exact br_t (by rw [ep]; decide) (t2 (fun z => h1' ⟨fun _ => z, hb⟩) (fun z => h0' (fun y => z (y.1 (Or.inr k3)))))
      · refine br_f (by rw [ep]; exact nI_pos (by omega)) ⟨1 + 9 * p, by rw [ep]; exact ix90 p, by omega, ?_⟩
        have hbi : ∀ {P : Prop}, (σ 61 (1 + 9 * p) = 2 ∨ σ 61 (1 + 9 * p + 6) = nI f) → (bes (σ 61) t (nI f) → P) → P := fun {P} z k => k (fun p' hp' z' => by
          have : p = p' := (nI_inj (by omega) (by omega)).mp (ep.symm.trans z')
          subst this
          exact z)
        by_cases ks : σ 61 (1 + 9 * p) = 2
        · exact br_f (not_not_intro ks) (t2 (fun z => hbi (Or.inl ks) (fun hb => h1' ⟨fun _ => z, hb⟩)) (fun z => h0' (fun y => z (y.1 (Or.inr k3)))))
        · refine br_t ks ⟨1 + 9 * p + 6, by rw [ep]; exact ix9 p 6, by omega, ?_⟩
          by_cases kf : σ 61 (1 + 9 * p + 6) = nI f
          · exact br_f (not_not_intro kf) (t2 (fun z => hbi (Or.inr kf) (fun hb => h1' ⟨fun _ => z, hb⟩)) (fun z => h0' (fun y => z (y.1 (Or.inr k3)))))
          · have hbn : ¬ bes (σ 61) t (nI f) := fun z => (z p (by omega) ep).elim ks kf
            exact br_t kf (t2 (fun z => h0' (fun y => hbn y.2)) (fun z => h0' (fun y => hbn y.2)))
    · have hb : bes (σ 61) t (nI f) := fun p hp8 z => absurd z (by rw [hT.2.2.2.2.2.2.2.2.2.2 k3]; exact fun q => nI_m1 (by omega) q.symm)
      exact br_t k3 ⟨_, ix90 t, by omega, br_t k3 (h1' ⟨fun z => absurd z (fun y => y.elim k1 k3), hb⟩)⟩
end MK
