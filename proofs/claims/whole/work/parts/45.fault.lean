theorem sumN_le {f : Nat → Nat} {b : Nat} : ∀ n, (∀ t, t < n → f t ≤ b) → sumN f n ≤ b * n
  | 0, _ => by
    show 0 ≤ _
    omega
  | n + 1, h => by
    have h1 := sumN_le n (fun t ht => h t (by omega))
    have h2 := h n (by omega)
    show sumN f n + f n ≤ b * (n + 1)
    rw [Nat.mul_add, Nat.mul_one]
    omega
theorem ldN_lt {r : Nat → Int32} {n w : Nat} (hR : RI r n) (hw : w < 6) : ldN r n w ≤ 88 := by
  have hn8 := hR.1
  have h1 : sumN (cS r w) n ≤ 1 * n := sumN_le n (fun t ht => by
    unfold cS stn
    split
    · omega
    · split <;> omega)
  have h2 : sumN (cF r w) n ≤ 10 * n := sumN_le n (fun t ht => by
    have := (hr_ok hR ht).2.2
    unfold cF
    split <;> split <;> omega)
  unfold ldN
  omega
theorem cft_in {S : Nat × (Nat → Int32)} {d n l : Nat} {σ : Mem} {Q : MQ1} (hR : RI (σ 61) n) (hC : CR (σ 2) (σ 61) n) (hl : 1 ≤ l ∧ l ≤ 5) (hp : 2 ≤ l → ∀ t, t < n → KL (σ 61) n 1 t) (hs : ∀ t, fst (KL (σ 61) n l) n 0 = some t → Q [.inl (nI (100 * l + t))] σ) (hn : fst (KL (σ 61) n l) n 0 = none → ∀ x : Int32, Ev S (d + 4) 29 2 [some (.inr (some 3)), some (.inl (nI (l + 1))), some (.inl x)] [] σ Q) : ∀ (q t : Nat), t + q = n → fst (KL (σ 61) n l) q t = fst (KL (σ 61) n l) n 0 → Ev S (d + 4) 29 7 [some (.inr (some 3)), some (.inl (nI l)), some (.inl (nI t))] [] σ Q
  | 0, t, ht, he => by
    have : t = n := by omega
    subst this
    refine g_29_7 ?_
    rw [hC.1, nI_1]
    exact br_t (Int32.le_refl _) (hn he.symm _)
  | q + 1, t, ht, he => by
    have hn8 := hR.1
    refine g_29_7 ?_
    rw [hC.1]
    refine br_f (nI_ge (by omega) (by omega)) ⟨_, ix00 t, by omega, ?_⟩
    rw [(cf hC (show t < n by omega)).1]
    by_cases hk : σ 61 (1 + 9 * t) = 2
    · refine br_f (not_not_intro hk) ?_
      rw [nI_1]
      exact cft_in hR hC hl hp hs hn q (t + 1) (by omega) ((fst_t (Or.inl hk)).symm.trans he)
    · refine br_t hk (ck_all hR hC (by omega) hl (fun h2 => ((hp h2 t (by omega)).resolve_left hk)) (fun z => g_29_21 (br_t (by decide) ?_)) (fun z => g_29_21 (br_f (not_not_intro rfl) ?_)))
      · rw [nI_1]
        exact cft_in hR hC hl hp hs hn q (t + 1) (by omega) ((fst_t (Or.inr z)).symm.trans he)
      · rw [show (100 : Int32) = nI 100 from rfl, pk_mul, nI_add]
        exact hs t (he.symm.trans (fst_f (fun y => y.elim hk z)))
theorem cft_7 {S : Nat × (Nat → Int32)} {d n : Nat} {σ : Mem} {Q : MQ1} {o2 : Option MV} (hR : RI (σ 61) n) (hC : CR (σ 2) (σ 61) n) (h : Q [.inl (fW7 (σ 61) n)] σ) : ∀ (q w : Nat), w + q = 6 → fst (K7 (σ 61) n) q w = fst (K7 (σ 61) n) 6 0 → Ev S (d + 4) 29 54 [some (.inr (some 3)), some (.inl (nI w)), o2] [] σ Q
  | 0, w, hw, he => by
    have : w = 6 := by omega
    subst this
    refine g_29_54 (br_t (by decide) ?_)
    unfold fW7 at h
    rw [← he] at h
    exact h
  | q + 1, w, hw, he => by
    refine g_29_54 (br_f (nI_ge (b := 6) (by omega) (by decide)) (c_load hR hC (by omega) (g_29_60 ⟨_, ixp 72 w, by omega, ?_⟩)))
    rw [hC.2.2.1 w (by omega)]
    by_cases hk : nI (ldN (σ 61) n w) ≤ σ 61 (73 + w)
    · refine br_t hk ?_
      rw [nI_1]
      exact cft_7 hR hC h q (w + 1) (by omega) ((fst_t hk).symm.trans he)
    · refine br_f hk ?_
      unfold fW7 at h
      rw [← he, fst_f hk] at h
      rw [show (700 : Int32) = nI 700 from rfl, nI_add]
      exact h
theorem cft_6 {S : Nat × (Nat → Int32)} {d n : Nat} {σ : Mem} {Q : MQ1} {o2 : Option MV} (hR : RI (σ 61) n) (hC : CR (σ 2) (σ 61) n) (h : Q [.inl (fW6 (σ 61) n)] σ) : ∀ (q w : Nat), w + q = 6 → fst (K6 (σ 61) n) q w = fst (K6 (σ 61) n) 6 0 → Ev S (d + 4) 29 34 [some (.inr (some 3)), some (.inl (nI w)), o2] [] σ Q
  | 0, w, hw, he => by
    have : w = 6 := by omega
    subst this
    refine g_29_34 (br_t (by decide) (cft_7 hR hC ?_ 6 0 (by omega) rfl))
    unfold fW6 at h
    rw [← he] at h
    exact h
  | q + 1, w, hw, he => by
    refine g_29_34 (br_f (nI_ge (b := 6) (by omega) (by decide)) ?_)
    rw [snC hC (show w < 6 by omega)]
    by_cases hsn : σ 61 (79 + w) = 1
    · refine br_f (not_not_intro hsn) (c_load hR hC (by omega) (g_29_45 ?_))
      have hlt := ldN_lt hR (w := w) (by omega)
      by_cases hz : ldN (σ 61) n w = 0
      · refine br_t (by rw [hz]; decide) ?_
        rw [nI_1]
        exact cft_6 hR hC h q (w + 1) (by omega) ((fst_t (fun _ => hz)).symm.trans he)
      · refine br_f (fun z => hz ((nI_inj (by omega) (by decide)).mp z)) ?_
        unfold fW6 at h
        rw [← he, fst_f (fun y => hz (y hsn))] at h
        rw [show (600 : Int32) = nI 600 from rfl, nI_add]
        exact h
    · refine br_t hsn ?_
      rw [nI_1]
      exact cft_6 hR hC h q (w + 1) (by omega) ((fst_t (fun z => absurd z hsn)).symm.trans he)
theorem cft_out {S : Nat × (Nat → Int32)} {d n : Nat} {σ : Mem} {Q : MQ1} (hR : RI (σ 61) n) (hC : CR (σ 2) (σ 61) n) : ∀ (q l : Nat) (o2 : Option MV), l + q = 6 → 1 ≤ l → (2 ≤ l → ∀ t, t < n → KL (σ 61) n 1 t) → Q [.inl (fV (σ 61) n q l)] σ → Ev S (d + 4) 29 2 [some (.inr (some 3)), some (.inl (nI l)), o2] [] σ Q
  | 0, l, o2, hl, h1, hp, h => by
    have : l = 6 := by omega
    subst this
    exact g_29_2 (br_t (by decide) (cft_6 hR hC h 6 0 (by omega) rfl))
  | q + 1, l, o2, hl, h1, hp, h => by
    have hn8 := hR.1
    refine g_29_2 (br_f (nI_nlt (a := 5) (by omega) (by decide)) (cft_in hR hC ⟨h1, by omega⟩ hp (fun t e => ?_) (fun e x => cft_out hR hC q (l + 1) _ (by omega) (by omega) (fun _ t ht => ?_) ?_) n 0 (by omega) rfl))
    · unfold fV at h
      rw [e] at h
      exact h
    · by_cases h2 : 2 ≤ l
      · exact hp h2 t ht
      · have : l = 1 := by omega
        subst this
        exact (fst_none n 0).mp e t (by omega) (by omega)
    · unfold fV at h
      rw [e] at h
      exact h
theorem c_fault {S : Nat × (Nat → Int32)} {d n : Nat} {σ : Mem} {Q : MQ1} (hR : RI (σ 61) n) (hC : CR (σ 2) (σ 61) n) (h : Q [.inl (fV (σ 61) n 5 1)] σ) : Ec S (d + 4) 29 [.inr (some 3)] σ Q := Ec_of rfl (g_29_0 (cft_out hR hC 5 1 _ (by omega) (by omega) (fun z => absurd z (by decide)) h))
theorem mft_in {S : Nat × (Nat → Int32)} {d n l : Nat} {σ : Mem} {Q : MQ1} (hR : RI (σ 61) n) (hl : 1 ≤ l ∧ l ≤ 5) (hp : 2 ≤ l → ∀ t, t < n → KL (σ 61) n 1 t) (hs : ∀ t, fst (KL (σ 61) n l) n 0 = some t → Q [.inl (nI (100 * l + t))] σ) (hn : fst (KL (σ 61) n l) n 0 = none → ∀ x : Int32, Ev S (d + 3) 151 2 [some (.inr (some 60)), some (.inl (nI (l + 1))), some (.inl x)] [] σ Q) : ∀ (q t : Nat), t + q = n → fst (KL (σ 61) n l) q t = fst (KL (σ 61) n l) n 0 → Ev S (d + 3) 151 7 [some (.inr (some 60)), some (.inl (nI l)), some (.inl (nI t))] [] σ Q
  | 0, t, ht, he => by
    have : t = n := by omega
    subst this
    refine g_151_7 ?_
    rw [hR.2.1, nI_1]
    exact br_t (Int32.le_refl _) (hn he.symm _)
  | q + 1, t, ht, he => by
    have hn8 := hR.1
    refine g_151_7 ?_
    rw [hR.2.1]
    refine br_f (nI_ge (by omega) (by omega)) ⟨_, ix90 t, by omega, ?_⟩
    by_cases hk : σ 61 (1 + 9 * t) = 2
    · refine br_f (not_not_intro hk) ?_
      rw [nI_1]
      exact mft_in hR hl hp hs hn q (t + 1) (by omega) ((fst_t (Or.inl hk)).symm.trans he)
    · refine br_t hk (mk_all hR (by omega) hl (fun h2 => ((hp h2 t (by omega)).resolve_left hk)) (fun z => g_151_21 (br_t (by decide) ?_)) (fun z => g_151_21 (br_f (not_not_intro rfl) ?_)))
      · rw [nI_1]
        exact mft_in hR hl hp hs hn q (t + 1) (by omega) ((fst_t (Or.inr z)).symm.trans he)
      · rw [show (100 : Int32) = nI 100 from rfl, pk_mul, nI_add]
        exact hs t (he.symm.trans (fst_f (fun y => y.elim hk z)))
theorem mft_7 {S : Nat × (Nat → Int32)} {d n : Nat} {σ : Mem} {Q : MQ1} {o2 : Option MV} (hR : RI (σ 61) n) (h : Q [.inl (fW7 (σ 61) n)] σ) : ∀ (q w : Nat), w + q = 6 → fst (K7 (σ 61) n) q w = fst (K7 (σ 61) n) 6 0 → Ev S (d + 3) 151 53 [some (.inr (some 60)), some (.inl (nI w)), o2] [] σ Q
  | 0, w, hw, he => by
    have : w = 6 := by omega
    subst this
    refine g_151_53 (br_t (by decide) ?_)
    unfold fW7 at h
    rw [← he] at h
    exact h
  | q + 1, w, hw, he => by
    refine g_151_53 (br_f (nI_ge (b := 6) (by omega) (by decide)) (m_load hR (by omega) (g_151_59 ⟨_, ixp 73 w, by omega, ?_⟩)))
    by_cases hk : nI (ldN (σ 61) n w) ≤ σ 61 (73 + w)
    · refine br_t hk ?_
      rw [nI_1]
      exact mft_7 hR h q (w + 1) (by omega) ((fst_t hk).symm.trans he)
    · refine br_f hk ?_
      unfold fW7 at h
      rw [← he, fst_f hk] at h
      rw [show (700 : Int32) = nI 700 from rfl, nI_add]
      exact h
theorem mft_6 {S : Nat × (Nat → Int32)} {d n : Nat} {σ : Mem} {Q : MQ1} {o2 : Option MV} (hR : RI (σ 61) n) (h : Q [.inl (fW6 (σ 61) n)] σ) : ∀ (q w : Nat), w + q = 6 → fst (K6 (σ 61) n) q w = fst (K6 (σ 61) n) 6 0 → Ev S (d + 3) 151 34 [some (.inr (some 60)), some (.inl (nI w)), o2] [] σ Q
  | 0, w, hw, he => by
    have : w = 6 := by omega
    subst this
    refine g_151_34 (br_t (by decide) (mft_7 hR ?_ 6 0 (by omega) rfl))
    unfold fW6 at h
    rw [← he] at h
    exact h
  | q + 1, w, hw, he => by
    refine g_151_34 (br_f (nI_ge (b := 6) (by omega) (by decide)) ⟨_, ixp 79 w, by omega, ?_⟩)
    by_cases hsn : σ 61 (79 + w) = 1
    · refine br_f (not_not_intro hsn) (m_load hR (by omega) (g_151_44 ?_))
      have hlt := ldN_lt hR (w := w) (by omega)
      by_cases hz : ldN (σ 61) n w = 0
      · refine br_t (by rw [hz]; decide) ?_
        rw [nI_1]
        exact mft_6 hR h q (w + 1) (by omega) ((fst_t (fun _ => hz)).symm.trans he)
      · refine br_f (fun z => hz ((nI_leI (b := 0) (by omega) (by decide)).mp z |> Nat.le_zero.mp)) ?_
        unfold fW6 at h
        rw [← he, fst_f (fun y => hz (y hsn))] at h
        rw [show (600 : Int32) = nI 600 from rfl, nI_add]
        exact h
    · refine br_t hsn ?_
      rw [nI_1]
      exact mft_6 hR h q (w + 1) (by omega) ((fst_t (fun z => absurd z hsn)).symm.trans he)
theorem mft_out {S : Nat × (Nat → Int32)} {d n : Nat} {σ : Mem} {Q : MQ1} (hR : RI (σ 61) n) : ∀ (q l : Nat) (o2 : Option MV), l + q = 6 → 1 ≤ l → (2 ≤ l → ∀ t, t < n → KL (σ 61) n 1 t) → Q [.inl (fV (σ 61) n q l)] σ → Ev S (d + 3) 151 2 [some (.inr (some 60)), some (.inl (nI l)), o2] [] σ Q
  | 0, l, o2, hl, h1, hp, h => by
    have : l = 6 := by omega
    subst this
    exact g_151_2 (br_t (by decide) (mft_6 hR h 6 0 (by omega) rfl))
  | q + 1, l, o2, hl, h1, hp, h => by
    have hn8 := hR.1
    refine g_151_2 (br_f (nI_nlt (a := 5) (by omega) (by decide)) (mft_in hR ⟨h1, by omega⟩ hp (fun t e => ?_) (fun e x => mft_out hR q (l + 1) _ (by omega) (by omega) (fun _ t ht => ?_) ?_) n 0 (by omega) rfl))
    · unfold fV at h
      rw [e] at h
      exact h
    · by_cases h2 : 2 ≤ l
      · exact hp h2 t ht
      · have : l = 1 := by omega
        subst this
        exact (fst_none n 0).mp e t (by omega) (by omega)
    · unfold fV at h
      rw [e] at h
      exact h
theorem m_fault {S : Nat × (Nat → Int32)} {d n : Nat} {σ : Mem} {Q : MQ1} (hR : RI (σ 61) n) (h : Q [.inl (fV (σ 61) n 5 1)] σ) : Ec S (d + 3) 151 [.inr (some 60)] σ Q := Ec_of rfl (g_151_0 (mft_out hR 5 1 _ (by omega) (by omega) (fun z => absurd z (by decide)) h))
theorem L_fault {S : Nat × (Nat → Int32)} {d : Nat} {σ : Mem} (hG : GI σ) : LK S (d + 5) 91 (d + 5) 152 [] σ := by
  have hG' := hG
  obtain ⟨⟨n, hR, hC⟩, -, -, -⟩ := hG'
  exact Ec_of rfl (g_91_0 (c_fault hR hC (g_91_3 (Ec_of rfl (g_152_0 (m_fault hR (g_152_2 (fin_s hG))))))))
theorem fV_0 {r : Nat → Int32} {n : Nat} : ∀ (q l : Nat), l + q = 6 → 1 ≤ l → n ≤ 8 → (fV r n q l = 0 ↔ (∀ l', l ≤ l' → l' < 6 → ∀ t, t < n → KL r n l' t) ∧ fW6 r n = 0)
  | 0, l, hl, h1, hn => ⟨fun h => ⟨fun l' a b => by omega, h⟩, fun h => h.2⟩
  | q + 1, l, hl, h1, hn => by
    have ih := fV_0 (r := r) (n := n) q (l + 1) (by omega) (by omega) hn
    cases hf : fst (KL r n l) n 0 with
    | some t =>
      have hlt := fst_lt n 0 t hf
      have e : fV r n (q + 1) l = nI (100 * l + t) := by
        conv => lhs; unfold fV
        rw [hf]
      rw [e]
      refine ⟨fun z => absurd ((nI_inj (b := 0) (by omega) (by decide)).mp z) (by omega), fun z => ?_⟩
      have := (fst_none n 0).mpr (fun j _ h2 => z.1 l (by omega) (by omega) j (by omega))
      rw [hf] at this
      cases this
    | none =>
      have e : fV r n (q + 1) l = fV r n q (l + 1) := by
        conv => lhs; unfold fV
        rw [hf]
      rw [e, ih]
      refine ⟨fun z => ⟨fun l' a b t ht => ?_, z.2⟩, fun z => ⟨fun l' a b => z.1 l' (by omega) b, z.2⟩⟩
      by_cases hll : l' = l
      · subst hll
        exact (fst_none n 0).mp hf t (by omega) (by omega)
      · exact z.1 l' (by omega) b t ht
theorem fW6_0 {r : Nat → Int32} {n : Nat} : fW6 r n = 0 ↔ (∀ w, w < 6 → K6 r n w) ∧ ∀ w, w < 6 → K7 r n w := by
  unfold fW6 fW7
  cases h6 : fst (K6 r n) 6 0 with
  | some w =>
    have hlt := fst_lt 6 0 w h6
    refine ⟨fun z => absurd ((nI_inj (a := 600 + w) (b := 0) (by omega) (by decide)).mp z) (by omega), fun z => ?_⟩
    have := (fst_none 6 0).mpr (fun j _ h2 => z.1 j (by omega))
    rw [h6] at this
    cases this
  | none =>
    have a6 := (fst_none 6 0).mp h6
    cases h7 : fst (K7 r n) 6 0 with
    | some w =>
      have hlt := fst_lt 6 0 w h7
      refine ⟨fun z => absurd ((nI_inj (a := 700 + w) (b := 0) (by omega) (by decide)).mp z) (by omega), fun z => ?_⟩
      have := (fst_none 6 0).mpr (fun j _ h2 => z.2 j (by omega))
      rw [h7] at this
      cases this
    | none =>
      have a7 := (fst_none 6 0).mp h7
      exact ⟨fun _ => ⟨fun w hw => a6 w (by omega) (by omega), fun w hw => a7 w (by omega) (by omega)⟩, fun _ => rfl⟩
