theorem act_cp {S : Nat × (Nat → Int32)} {d m : Nat} {Q : MQ1} (hm : m < 25) : ∀ (q k : Nat) (σ : Mem), k + q = 86 → σ 60 2 = nI m →
    (∀ σ' : Mem, (∀ a, a ≠ 62 → σ' a = σ a) → (∀ i, (86 * m + k ≤ i ∧ i < 86 * m + 86 → σ' 62 i = σ 61 (i - 86 * m)) ∧ (¬ (86 * m + k ≤ i ∧ i < 86 * m + 86) → σ' 62 i = σ 62 i)) → Q [] (up σ' 60 2 (σ' 60 2 + 1))) →
    Ev S d 126 29 [some (.inr (some 60)), some (.inl (nI k))] [] σ Q
  | 0, k, σ, hk, _, h => by
    have : k = 86 := by omega
    subst this
    exact g_126_29 ⟨fun _ => h σ (fun _ _ => rfl) (fun i => ⟨fun c => by omega, fun _ => rfl⟩), fun c => absurd (by decide) c⟩
  | q + 1, k, σ, hk, h2, h => by
    refine g_126_29 ⟨fun c => absurd c (nI_ge (b := 86) (by omega) (by decide)), fun _ => ⟨k, rfl, by omega, 86 * m + k, ?_, by omega, ?_⟩⟩
    · rw [h2, show (86 : Int32) = nI 86 from rfl, pk_mul, nI_add]
    · rw [nI_1]
      refine act_cp hm q (k + 1) _ (by omega) (by rw [up_ne (by decide)]; exact h2) (fun σ' h3 h4 => h σ' (fun a ha => by rw [h3 a ha, up_ne ha]) (fun i => ?_))
      have := h4 i
      by_cases hi : i = 86 * m + k
      · subst hi
        refine ⟨fun _ => ?_, fun c => absurd ⟨Nat.le_refl _, by omega⟩ c⟩
        rw [this.2 (by omega), up_self]
        congr 1
        omega
      · refine ⟨fun c => ?_, fun c => ?_⟩
        · rw [this.1 (by omega), up_ne (by decide)]
        · rw [this.2 (by omega), up_off hi]
theorem act_sh {S : Nat × (Nat → Int32)} {d : Nat} {Q : MQ1} : ∀ (q k : Nat) (σ : Mem), k + q = 2064 →
    (∀ σ' : Mem, (∀ a, a ≠ 62 → σ' a = σ a) → (∀ i, (k ≤ i ∧ i < 2064 → σ' 62 i = σ 62 (i + 86)) ∧ (¬ (k ≤ i ∧ i < 2064) → σ' 62 i = σ 62 i)) → Ev S d 126 29 [some (.inr (some 60)), some (.inl 0)] [] (up σ' 60 2 (σ' 60 2 - 1)) Q) →
    Ev S d 126 6 [some (.inr (some 60)), some (.inl (nI k))] [] σ Q
  | 0, k, σ, hk, h => by
    have : k = 2064 := by omega
    subst this
    exact g_126_6 ⟨fun _ => h σ (fun _ _ => rfl) (fun i => ⟨fun c => by omega, fun _ => rfl⟩), fun c => absurd (by decide) c⟩
  | q + 1, k, σ, hk, h => by
    refine g_126_6 ⟨fun c => absurd c (nI_ge (b := 2064) (by omega) (by decide)), fun _ => ⟨k + 86, ?_, by omega, k, rfl, by omega, ?_⟩⟩
    · rw [show (86 : Int32) = nI 86 from rfl, nI_add]
    · rw [nI_1]
      refine act_sh q (k + 1) _ (by omega) (fun σ' h3 h4 => h σ' (fun a ha => by rw [h3 a ha, up_ne ha]) (fun i => ?_))
      have := h4 i
      by_cases hi : i = k
      · subst hi
        refine ⟨fun _ => ?_, fun c => absurd ⟨Nat.le_refl _, by omega⟩ c⟩
        rw [this.2 (by omega), up_self]
      · refine ⟨fun c => ?_, fun c => ?_⟩
        · rw [this.1 (by omega), up_off (by omega)]
        · rw [this.2 (by omega), up_off hi]
/-- what the reference's act() leaves -/
def AP (σ σ' : Mem) (m : Nat) : Prop := (∀ a, a ≠ 60 → a ≠ 62 → σ' a = σ a) ∧ (∀ j, j ≠ 2 → σ' 60 j = σ 60 j) ∧ σ' 60 2 = nI (min (m + 1) 25) ∧ ∀ j k, j < min (m + 1) 25 → k < 86 → σ' 62 (86 * j + k) = if j + 1 = min (m + 1) 25 then σ 61 k else σ 62 (86 * (j + if m = 25 then 1 else 0) + k)
theorem c_act {S : Nat × (Nat → Int32)} {d m : Nat} {σ : Mem} {Q : MQ1} (h2 : σ 60 2 = nI m) (hm : m ≤ 25) (h : ∀ σ', AP σ σ' m → Q [] σ') : Ec S d 126 [.inr (some 60)] σ Q := by
  show Ev S d 126 0 [some (.inr (some 60)), none] [] σ Q
  refine g_126_0 ⟨fun c => ?_, fun c => ?_⟩
  · have hm2 : m < 25 := by
      rcases Nat.lt_or_ge m 25 with q | q
      · exact q
      · exact absurd (by rw [h2, show m = 25 by omega]; rfl) c
    refine act_cp hm2 86 0 σ (by omega) h2 (fun σ' h3 h4 => h _ ⟨fun a h5 h6 => ?_, fun j hj => ?_, ?_, fun j k hj hk => ?_⟩)
    · rw [up_ne h5, h3 a h6]
    · rw [up_off hj, h3 60 (by decide)]
    · rw [up_self, h3 60 (by decide), h2, nI_1, show min (m + 1) 25 = m + 1 by omega]
    · rw [up_ne (by decide)]
      have e : min (m + 1) 25 = m + 1 := by omega
      rw [e] at hj ⊢
      by_cases hjm : j = m
      · subst hjm
        rw [if_pos rfl, (h4 _).1 (by omega)]
        congr 1
        omega
      · rw [if_neg (by omega), if_neg (by omega), (h4 _).2 (by omega), Nat.add_zero]
  · have hm2 : m = 25 := by
      have h9 := Decidable.not_not.mp c
      rw [h2, show (25 : Int32) = nI 25 from rfl, nI_inj (by omega) (by decide)] at h9
      exact h9
    subst hm2
    refine act_sh 2064 0 σ (by omega) (fun σ1 h3 h4 => ?_)
    have h60 : σ1 60 2 - 1 = nI 24 := by
      rw [h3 60 (by decide), h2]
      decide +kernel
    refine act_cp (m := 24) (by decide) 86 0 _ (by omega) (by rw [up_self]; exact h60) (fun σ' h5 h6 => h _ ⟨fun a h7 h8 => ?_, fun j hj => ?_, ?_, fun j k hj hk => ?_⟩)
    · rw [up_ne h7, h5 a h8, up_ne h7, h3 a h8]
    · rw [up_off hj, h5 60 (by decide), up_off hj, h3 60 (by decide)]
    · rw [up_self, h5 60 (by decide), up_self, h60]
      decide +kernel
    · rw [up_ne (by decide)]
      have e : min (25 + 1) 25 = 25 := by decide
      rw [e] at hj ⊢
      by_cases hjm : j = 24
      · subst hjm
        rw [if_pos rfl, (h6 _).1 (by omega), up_ne (by decide), h3 61 (by decide), show 86 * 24 + k - 86 * 24 = k by omega]
      · rw [if_neg (by omega), if_pos rfl, (h6 _).2 (by omega), up_ne (by decide), (h4 _).1 (by omega), show 86 * j + k + 86 = 86 * (j + 1) + k by omega]
/-- what the system's keep() leaves -/
def KP (σ σ' : Mem) (m nx : Nat) : Prop := (∀ a, a ≠ 24 → a ≠ 26 + nx → σ' a = σ a) ∧ σ' 24 1 = nI ((nx + 1) % 25) ∧ σ' 24 2 = nI (min (m + 1) 25) ∧ ∀ k, k < 81 → σ' (26 + nx) k = σ 2 k
theorem c_keep {S : Nat × (Nat → Int32)} {d m nx : Nat} {σ : Mem} {Q : MQ1} (h1 : σ 24 1 = nI nx) (hnx : nx < 25) (h2 : σ 24 2 = nI m) (hm : m ≤ 25) (h : ∀ σ', KP σ σ' m nx → Q [] σ') : Ec S (d + 2) 26 [.inr (some 24), .inr (some 1)] σ Q := by
  show Ev S (d + 2) 26 0 [some (.inr (some 24)), some (.inr (some 1))] [] σ Q
  refine g_26_0 ⟨nx, h1, hnx, 0, 0, 81, rfl, rfl, rfl, by omega, by omega, ?_⟩
  generalize hτ : upr σ (26 + nx) (fun k => if 0 ≤ k ∧ k < 0 + 81 then σ 2 (0 + (k - 0)) else σ (26 + nx) k) = τ
  have t24 : τ 24 = σ 24 := by rw [← hτ, upr_ne (by omega)]
  have tn : ∀ k, k < 81 → τ (26 + nx) k = σ 2 k := fun k hk => by
    rw [← hτ, upr_self]
    rw [if_pos (by omega)]
    congr 1
    omega
  have to : ∀ a, a ≠ 26 + nx → τ a = σ a := fun a ha => by rw [← hτ, upr_ne ha]
  have hmin : (if 25 < nI m + 1 then 25 else nI m + 1) = nI (min (m + 1) 25) := by
    rw [nI_1]
    by_cases hc : m = 25
    · subst hc
      decide +kernel
    · rw [if_neg (show ¬ (25 : Int32) < nI (m + 1) from nI_nlt (a := 25) (b := m + 1) (by omega) (by decide)), show min (m + 1) 25 = m + 1 by omega]
  refine ⟨fun c => ?_, fun c => ?_⟩
  · have hn : nx = 24 := by
      rw [t24, h1, nI_1] at c
      rcases Nat.lt_or_ge nx 24 with q | q
      · exact absurd c (nI_ge (b := 25) (by omega) (by decide))
      · omega
    refine h _ ⟨fun a h5 h6 => ?_, ?_, ?_, fun k hk => ?_⟩
    · rw [up_ne h5, up_ne h5, to a h6]
    · rw [up_off (by decide), up_self, hn]
      rfl
    · rw [up_self, up_off (by decide), t24, h2]
      exact hmin
    · rw [up_ne (by omega), up_ne (by omega), tn k hk]
  · have hn : nx < 24 := by
      rw [t24, h1, nI_1] at c
      rcases Nat.lt_or_ge nx 24 with q | q
      · exact q
      · exact absurd (by rw [show nx = 24 by omega]; decide) c
    refine h _ ⟨fun a h5 h6 => ?_, ?_, ?_, fun k hk => ?_⟩
    · rw [up_ne h5, up_ne h5, to a h6]
    · rw [up_off (by decide), up_self, t24, h1, nI_1, show (nx + 1) % 25 = nx + 1 by omega]
    · rw [up_self, up_off (by decide), t24, h2]
      exact hmin
    · rw [up_ne (by omega), up_ne (by omega), tn k hk]
theorem GH_new {m nx : Nat} {hd' : Nat → Int32} {cr cr' : Nat → Nat → Int32} {km' : Int32} {kt kt' c r : Nat → Int32} (hm : m ≤ 25) (hnx : nx < 25) (hold : ∀ j, j < m → GR (cr ((nx + 25 - m + j) % 25)) (fun k => kt (86 * j + k))) (hR : GR c r) (k1 : hd' 1 = nI ((nx + 1) % 25)) (k2 : hd' 2 = nI (min (m + 1) 25)) (k3 : km' = nI (min (m + 1) 25)) (k4 : ∀ k, k < 81 → cr' nx k = c k) (k5 : ∀ j, j < 25 → j ≠ nx → cr' j = cr j)
    (k6 : ∀ j k, j < min (m + 1) 25 → k < 86 → kt' (86 * j + k) = if j + 1 = min (m + 1) 25 then r k else kt (86 * (j + if m = 25 then 1 else 0) + k)) : GH hd' cr' km' kt' := by
  refine ⟨min (m + 1) 25, (nx + 1) % 25, by omega, by omega, k1, k2, k3, fun j hj => ?_⟩
  by_cases hl : j + 1 = min (m + 1) 25
  · rw [show ((nx + 1) % 25 + 25 - min (m + 1) 25 + j) % 25 = nx by omega]
    refine hR.congr (fun k hk => ?_) k4
    try dsimp only
    rw [k6 j k hj hk, if_pos hl]
  · by_cases h25 : m = 25
    · subst h25
      have e := hold (j + 1) (by omega)
      have hne : ((nx + 1) % 25 + 25 - min (25 + 1) 25 + j) % 25 ≠ nx := by omega
      rw [k5 _ (by omega) hne, show ((nx + 1) % 25 + 25 - min (25 + 1) 25 + j) % 25 = (nx + 25 - 25 + (j + 1)) % 25 by omega]
      refine e.congr (fun k hk => ?_) (fun _ _ => rfl)
      try dsimp only
      rw [k6 j k hj hk, if_neg hl, if_pos rfl]
    · have e := hold j (by omega)
      have hne : ((nx + 1) % 25 + 25 - min (m + 1) 25 + j) % 25 ≠ nx := by omega
      rw [k5 _ (by omega) hne, show ((nx + 1) % 25 + 25 - min (m + 1) 25 + j) % 25 = (nx + 25 - m + j) % 25 by omega]
      refine e.congr (fun k hk => ?_) (fun _ _ => rfl)
      try dsimp only
      rw [k6 j k hj hk, if_neg hl, if_neg h25, Nat.add_zero]
