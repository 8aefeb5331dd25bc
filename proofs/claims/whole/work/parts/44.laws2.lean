section CK
variable {S : Nat × (Nat → Int32)} {d n t f : Nat} {σ : Mem} {Q : MQ1}
theorem c32 (hC : CR (σ 2) (σ 61) n) (hf : f < 6) (h1 : ¬ σ 61 (79 + f) = 1 → Q [.inl 1] σ) (h0 : σ 61 (79 + f) = 1 → Q [.inl 0] σ) : Ec S (d + 2) 32 [.inr (some 3), .inl (nI f)] σ Q := by
  refine Ec_of rfl (g_32_0 (br_f (nI_m1 (by omega)) ?_))
  rw [snC hC hf]
  exact ⟨h1, fun z => h0 (Decidable.not_not.mp z)⟩
theorem c33 (hR : RI (σ 61) n) (hC : CR (σ 2) (σ 61) n) (ht : t < n) (hf : f < 6) {y : Int32} (hw : isW y) (h1 : rit (σ 61) t f y → Q [.inl 1] σ) (h0 : ¬ rit (σ 61) t f y → Q [.inl 0] σ) : Ec S (d + 2) 33 [.inr (some 3), .inl (nI t), .inl (nI f), .inl y] σ Q := by
  have hn8 := hR.1
  obtain ⟨er, hq⟩ := rt_ok hR ht
  refine Ec_of rfl (g_33_0 ⟨_, ix8 3 t, by omega, ?_⟩)
  rw [show σ 2 (8 * 3 + t) = σ 61 (1 + 9 * t + 3) from (cf hC ht).2.2.2.1]
  unfold rit at h1 h0
  by_cases hz : σ 61 (1 + 9 * t + 3) = 0
  · refine br_f (not_not_intro hz) ⟨fun z => h0 (fun k => z (k.1 hz)), fun z => h1 ⟨fun _ => Decidable.not_not.mp z, fun k => absurd hz k⟩⟩
  · refine br_t hz ?_
    rw [er] at h1 h0 hz ⊢
    rcases hw with rfl | ⟨v, hv, rfl⟩
    · refine br_t (Int32.le_of_lt (Int32.lt_of_lt_of_le (by decide) (nI_pos' (show f < 2 ^ 31 by omega)))) (h0 (fun z => ?_))
      obtain ⟨v, hv, e8, -⟩ := z.2 hz
      exact nI_m1 (by omega) e8.symm
    · have hno : ∀ P : Prop, (¬ σ 61 (79 + v) = 1 ∧ f < v ∧ v ≤ f + rt (σ 61) t → P) → ((nI (rt (σ 61) t) = 0 → nI v = -1) ∧ (¬ nI (rt (σ 61) t) = 0 → ∃ v', v' < 6 ∧ nI v = nI v' ∧ ¬ σ 61 (79 + v') = 1 ∧ f < v' ∧ v' ≤ f + rt (σ 61) t)) → P := fun P hP z => by
        obtain ⟨v', hv', e8, k⟩ := z.2 hz
        have : v = v' := one_f hv hv' e8
        subst this
        exact hP k
      rw [nI_leI (by omega) (by omega), nI_add, nI_ltI (by omega) (by omega), snC hC hv]
      by_cases a1 : v ≤ f
      · exact br_t a1 (h0 (fun z => hno False (fun k => by omega) z))
      · refine br_f a1 ?_
        by_cases a2 : f + rt (σ 61) t < v
        · exact br_t a2 (h0 (fun z => hno False (fun k => by omega) z))
        · refine br_f a2 ⟨fun a3 => h1 ⟨fun z => absurd z hz, fun _ => ⟨v, hv, rfl, a3, by omega, by omega⟩⟩, fun a3 => h0 (fun z => hno False (fun k => a3 k.1) z)⟩
theorem c34 (hR : RI (σ 61) n) (hC : CR (σ 2) (σ 61) n) (ht : t < n) {y : Int32} (h1 : aot (σ 61) t f y → Q [.inl 1] σ) (h0 : ¬ aot (σ 61) t f y → Q [.inl 0] σ) : Ec S (d + 2) 34 [.inr (some 3), .inl (nI t), .inl (nI f), .inl y] σ Q := by
  have hn8 := hR.1
  refine Ec_of rfl (g_34_0 ⟨_, ix80 t, by omega, ?_⟩)
  rw [(cf hC ht).1, hC.2.2.2.2]
  by_cases k1 : σ 61 (1 + 9 * t) = 1
  · exact br_t k1.symm (t2 (fun z => h1 (fun _ => z)) (fun z => h0 (fun y => z (y (Or.inl k1)))))
  · refine br_f (fun z => k1 z.symm) ?_
    by_cases k3 : σ 61 (1 + 9 * t) = 3
    · exact br_f (not_not_intro k3) (t2 (fun z => h1 (fun _ => z)) (fun z => h0 (fun y => z (y (Or.inr k3)))))
    · exact br_t k3 (h1 (fun z => absurd z (fun y => y.elim k1 k3)))
theorem c36_loop (hR : RI (σ 61) n) (hC : CR (σ 2) (σ 61) n) (ht : t < n) {o1 : Option MV} (h1 : PL (σ 61) n 3 t → Q [.inl 1] σ) (h0 : ¬ PL (σ 61) n 3 t → Q [.inl 0] σ) : ∀ (q o : Nat), o + q = n → (∀ o', o' < o → (nd (σ 61) t).testBit o' = true → ¬ σ 61 (1 + 9 * o') = 2 → σ 61 (1 + 9 * o' + 6) < σ 61 (1 + 9 * t + 6)) → Ev S (d + 1) 36 8 [some (.inr (some 3)), o1, some (.inl (σ 61 (1 + 9 * t + 6))), some (.inl (nI (nd (σ 61) t))), some (.inl (nI o))] [] σ Q
  | 0, o, ho, hx => by
    have : o = n := by omega
    subst this
    refine g_36_8 ?_
    rw [hC.1]
    exact br_t (Int32.le_refl _) (h1 hx)
  | q + 1, o, ho, hx => by
    have hn8 := hR.1
    obtain ⟨eN, hN⟩ := nd_ok hR ht
    have hN8 := lt256 hn8 hN
    have hcf := cf hC (show o < n by omega)
    have keep : ((nd (σ 61) t).testBit o = true → ¬ σ 61 (1 + 9 * o) = 2 → σ 61 (1 + 9 * o + 6) < σ 61 (1 + 9 * t + 6)) → ∀ o', o' < o + 1 → (nd (σ 61) t).testBit o' = true → ¬ σ 61 (1 + 9 * o') = 2 → σ 61 (1 + 9 * o' + 6) < σ 61 (1 + 9 * t + 6) := fun hk o' ho' => by
      by_cases e : o' = o
      · subst e
        exact hk
      · exact hx o' (by omega)
    refine g_36_8 ?_
    rw [hC.1]
    refine br_f (nI_ge (by omega) (by omega)) ?_
    rw [bit_0 (by omega) (by omega), nI_1]
    cases hb : (nd (σ 61) t).testBit o with
    | false => exact br_t rfl (c36_loop hR hC ht h1 h0 q (o + 1) (by omega) (keep (fun z => by rw [hb] at z; cases z)))
    | true =>
      refine br_f (by decide) ⟨_, ix00 o, by omega, ?_⟩
      rw [hcf.1]
      by_cases hs : σ 61 (1 + 9 * o) = 2
      · exact br_f (not_not_intro hs) (c36_loop hR hC ht h1 h0 q (o + 1) (by omega) (keep (fun _ z => absurd hs z)))
      · refine br_t hs ⟨_, ix8 5 o, by omega, ?_⟩
        rw [show σ 2 (8 * 5 + o) = σ 61 (1 + 9 * o + 6) from hcf.2.2.2.2.2.1]
        by_cases hl : σ 61 (1 + 9 * o + 6) < σ 61 (1 + 9 * t + 6)
        · exact br_t hl (c36_loop hR hC ht h1 h0 q (o + 1) (by omega) (keep (fun _ _ => hl)))
        · exact br_f hl (h0 (fun z => hl (z o (by omega) hb hs)))
theorem c36 (hR : RI (σ 61) n) (hC : CR (σ 2) (σ 61) n) (ht : t < n) (h1 : PL (σ 61) n 3 t → Q [.inl 1] σ) (h0 : ¬ PL (σ 61) n 3 t → Q [.inl 0] σ) : Ec S (d + 1) 36 [.inr (some 3), .inl (nI t), .inl (σ 61 (1 + 9 * t + 6))] σ Q := by
  have hn8 := hR.1
  refine Ec_of rfl (g_36_0 ⟨_, ix8 2 t, by omega, ?_⟩)
  rw [show σ 2 (8 * 2 + t) = σ 61 (1 + 9 * t + 2) from (cf hC ht).2.2.1, (nd_ok hR ht).1]
  exact c36_loop hR hC ht h1 h0 n 0 (by omega) (fun o' h => absurd h (Nat.not_lt_zero _))
/-- keeps of the reference, for a law in general -/
theorem mk_all (hR : RI (σ 61) n) (ht : t < n) {l : Nat} (hl : 1 ≤ l ∧ l ≤ 5) (hp : 2 ≤ l → ¬ σ 61 (1 + 9 * t + 6) = -1) (h1 : PL (σ 61) n l t → Q [.inl 1] σ) (h0 : ¬ PL (σ 61) n l t → Q [.inl 0] σ) : Ec S (d + 2) 150 [.inr (some 60), .inl (nI l), .inl (nI t)] σ Q := by
  have hn8 := hR.1
  by_cases hl1 : l = 1
  · subst hl1
    exact mk1 hR ht h1 h0
  obtain ⟨f, hf, e⟩ := (hR.2.2.1 t ht).2.2.2.2.2.2.1.resolve_left (hp (by omega))
  rcases (show l = 2 ∨ l = 3 ∨ l = 4 ∨ l = 5 by omega) with rfl | rfl | rfl | rfl
  · refine mk2 (by omega) hf e (fun z => h1 ⟨f, hf, e, z⟩) (fun z => h0 (fun ⟨f', hf', e', k⟩ => ?_))
    have : f = f' := one_f hf hf' (e.symm.trans e')
    subst this
    exact k z
  · exact mk3 hR ht h1 h0
  · refine mk4 (by omega) hf ⟨_, (rt_ok hR ht).2, (rt_ok hR ht).1⟩ e (hR.2.2.1 t ht).2.2.2.2.2.2.2.1 (fun z => h1 ⟨f, hf, e, z⟩) (fun z => h0 (fun ⟨f', hf', e', k⟩ => ?_))
    have : f = f' := one_f hf hf' (e.symm.trans e')
    subst this
    exact z k
  · exact mk5 hR ht hf e h1 h0
theorem ck_all (hR : RI (σ 61) n) (hC : CR (σ 2) (σ 61) n) (ht : t < n) {l : Nat} (hl : 1 ≤ l ∧ l ≤ 5) (hp : 2 ≤ l → ¬ σ 61 (1 + 9 * t + 6) = -1) (h1 : PL (σ 61) n l t → Q [.inl 1] σ) (h0 : ¬ PL (σ 61) n l t → Q [.inl 0] σ) : Ec S (d + 3) 35 [.inr (some 3), .inl (nI l), .inl (nI t)] σ Q := by
  have hn8 := hR.1
  have hT := hR.2.2.1 t ht
  have hcf := cf hC ht
  have e5 : σ 2 (8 * 5 + t) = σ 61 (1 + 9 * t + 6) := hcf.2.2.2.2.2.1
  have e6 : σ 2 (8 * 6 + t) = σ 61 (1 + 9 * t + 7) := hcf.2.2.2.2.2.2.1
  have e8 : σ 2 (8 * 8 + t) = σ 61 (1 + 9 * t + 5) := hcf.2.2.2.2.2.2.2.2
  have ne : ∀ a b : Nat, a < 6 → b < 6 → a ≠ b → ¬ nI a = nI b := fun a b ha hb h z => h (one_f ha hb z)
  refine Ec_of rfl (g_35_0 ⟨_, ix8 5 t, by omega, _, ix8 6 t, by omega, ?_⟩)
  rw [e5, e6]
  by_cases hl1 : l = 1
  · subst hl1
    exact ⟨fun _ => ⟨fun z => h0 (fun k => k z), fun z => h1 z⟩, fun c => absurd c (by decide), fun c => absurd c (by decide), fun c => absurd c (by decide), fun c => absurd (by decide) (c 0 (by decide))⟩
  obtain ⟨f, hf, e⟩ := hT.2.2.2.2.2.2.1.resolve_left (hp (by omega))
  rcases (show l = 2 ∨ l = 3 ∨ l = 4 ∨ l = 5 by omega) with rfl | rfl | rfl | rfl
  · refine ⟨fun c => absurd c (by decide), fun _ => ?_, fun c => absurd c (by decide), fun c => absurd c (by decide), fun c => absurd (by decide) (c 1 (by decide))⟩
    rw [e]
    refine c32 hC hf (fun z => g_35_24 ⟨Or.inr rfl, h1 ⟨f, hf, e, z⟩⟩) (fun z => g_35_24 ⟨Or.inl rfl, h0 (fun ⟨f', hf', e', k⟩ => ?_)⟩)
    have : f = f' := one_f hf hf' (e.symm.trans e')
    subst this
    exact k z
  · exact ⟨fun c => absurd c (by decide), fun c => absurd c (by decide), fun _ => c36 hR hC ht (fun z => g_35_29 ⟨Or.inr rfl, h1 z⟩) (fun z => g_35_29 ⟨Or.inl rfl, h0 z⟩), fun c => absurd c (by decide), fun c => absurd (by decide) (c 2 (by decide))⟩
  · refine ⟨fun c => absurd c (by decide), fun c => absurd c (by decide), fun c => absurd c (by decide), fun _ => ?_, fun c => absurd (by decide) (c 3 (by decide))⟩
    rw [e]
    refine c33 hR hC ht hf hT.2.2.2.2.2.2.2.1 (fun z => g_35_35 ⟨Or.inr rfl, h1 ⟨f, hf, e, z⟩⟩) (fun z => g_35_35 ⟨Or.inl rfl, h0 (fun ⟨f', hf', e', k⟩ => ?_)⟩)
    have : f = f' := one_f hf hf' (e.symm.trans e')
    subst this
    exact z k
  · refine ⟨fun c => absurd c (by decide), fun c => absurd c (by decide), fun c => absurd c (by decide), fun c => absurd c (by decide), fun _ => ?_⟩
    rw [e]
    have h0' : ¬ (aot (σ 61) t f (σ 61 (1 + 9 * t + 7)) ∧ bes (σ 61) t (nI f)) → Q [.inl 0] σ := fun z => h0 (fun ⟨f', hf', e', a, b⟩ => by
      have : f = f' := one_f hf hf' (e.symm.trans e')
      subst this
      exact z ⟨a, b⟩)
    refine c34 hR hC ht (fun a => g_35_41 (br_f (by decide) ⟨_, ix8 8 t, by omega, ?_⟩)) (fun a => g_35_41 (br_t rfl (h0' (fun y => a y.1))))
    rw [e8]
    rcases hT.2.2.2.2.2.1 with ep | ⟨p, hpn, hpt, ep⟩
    · exact br_t ep (h1 ⟨f, hf, e, a, fun p hp8 z => absurd z (by rw [ep]; exact fun q => nI_m1 (by omega) q.symm)⟩)
    · have hcp := cf hC hpn
      refine br_f (by rw [ep]; exact nI_m1 (by omega)) ⟨p, by rw [ep]; exact ix00 p, by omega, ?_⟩
      have hb : (σ 61 (1 + 9 * p) = 2 ∨ σ 61 (1 + 9 * p + 6) = nI f) → Q [.inl 1] σ := fun z => h1 ⟨f, hf, e, a, fun p' hp' z' => by
        have : p = p' := (nI_inj (by omega) (by omega)).mp (ep.symm.trans z')
        subst this
        exact z⟩
      rw [hcp.1]
      by_cases ks : σ 61 (1 + 9 * p) = 2
      · exact br_f (not_not_intro ks) (hb (Or.inl ks))
      · refine br_t ks ⟨8 * 5 + p, by rw [ep]; exact ix8 5 p, by omega, ?_⟩
        rw [show σ 2 (8 * 5 + p) = σ 61 (1 + 9 * p + 6) from hcp.2.2.2.2.2.1]
        by_cases kf : σ 61 (1 + 9 * p + 6) = nI f
        · exact br_f (not_not_intro kf) (hb (Or.inr kf))
        · exact br_t kf (h0' (fun y => (y.2 p (by omega) ep).elim ks kf))
end CK
/-! the first fault -/
noncomputable def fst (P : Nat → Prop) : Nat → Nat → Option Nat
  | 0, _ => none
  | q + 1, t => @ite _ (P t) (Classical.propDecidable _) (fst P q (t + 1)) (some t)
theorem fst_t {P : Nat → Prop} {q t : Nat} (h : P t) : fst P (q + 1) t = fst P q (t + 1) := if_pos h
theorem fst_f {P : Nat → Prop} {q t : Nat} (h : ¬ P t) : fst P (q + 1) t = some t := if_neg h
theorem fst_none {P : Nat → Prop} : ∀ q t, fst P q t = none ↔ ∀ j, t ≤ j → j < t + q → P j
  | 0, t => ⟨fun _ j h1 h2 => by omega, fun _ => rfl⟩
  | q + 1, t => by
    by_cases h : P t
    · rw [fst_t h, fst_none q (t + 1)]
      refine ⟨fun k j h1 h2 => ?_, fun k j h1 h2 => k j (by omega) (by omega)⟩
      by_cases e : j = t
      · subst e
        exact h
      · exact k j (by omega) (by omega)
    · rw [fst_f h]
      exact ⟨fun z => (by cases z), fun k => absurd (k t (by omega) (by omega)) h⟩
theorem fst_lt {P : Nat → Prop} : ∀ q t j, fst P q t = some j → j < t + q
  | 0, t, j, h => by cases h
  | q + 1, t, j, h => by
    by_cases hp : P t
    · rw [fst_t hp] at h
      have := fst_lt q (t + 1) j h
      omega
    · rw [fst_f hp] at h
      cases h
      omega
def KL (r : Nat → Int32) (n l t : Nat) : Prop := r (1 + 9 * t) = 2 ∨ PL r n l t
def K6 (r : Nat → Int32) (n w : Nat) : Prop := r (79 + w) = 1 → ldN r n w = 0
def K7 (r : Nat → Int32) (n w : Nat) : Prop := nI (ldN r n w) ≤ r (73 + w)
noncomputable def fW7 (r : Nat → Int32) (n : Nat) : Int32 := match fst (K7 r n) 6 0 with
  | some w => nI (700 + w)
  | none => 0
noncomputable def fW6 (r : Nat → Int32) (n : Nat) : Int32 := match fst (K6 r n) 6 0 with
  | some w => nI (600 + w)
  | none => fW7 r n
noncomputable def fV (r : Nat → Int32) (n : Nat) : Nat → Nat → Int32
  | 0, _ => fW6 r n
  | q + 1, l => match fst (KL r n l) n 0 with
    | some t => nI (100 * l + t)
    | none => fV r n q (l + 1)
