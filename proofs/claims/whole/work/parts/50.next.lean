def sx (s : Nat) : Int32 := if s = 0 then -1 else nI (s - 1)
theorem sx_1 (s : Nat) : sx s + 1 = sx (s + 1) := by
  unfold sx
  by_cases h : s = 0
  · subst h
    rfl
  · rw [if_neg h, if_neg (by omega), nI_1]
    congr 1
    omega
theorem sx_w {s : Nat} (h : s ≤ 6) : isW (sx s) := by
  unfold sx
  split
  · exact Or.inl rfl
  · exact Or.inr ⟨s - 1, by omega, rfl⟩
theorem sx_ogs {f s : Nat} (h : s ≤ 6) : ogs (7 * f + s) = sx s ∧ ogf (7 * f + s) = f := by
  unfold ogs ogf sx
  rw [show (7 * f + s) % 7 = s by omega]
  exact ⟨rfl, by omega⟩
def FR (t : Nat) (σ σ' : Mem) : Prop := (∀ a, a ≠ 61 → σ' a = σ a) ∧ ∀ i, i ≠ 1 + 9 * t + 6 → i ≠ 1 + 9 * t + 7 → σ' 61 i = σ 61 i
theorem FR.rf {t : Nat} {σ : Mem} : FR t σ σ := ⟨fun _ _ => rfl, fun _ _ _ => rfl⟩
theorem FR.tr {t : Nat} {σ σ' σ'' : Mem} (h : FR t σ σ') (g : FR t σ' σ'') : FR t σ σ'' := ⟨fun a ha => (g.1 a ha).trans (h.1 a ha), fun i x y => (g.2 i x y).trans (h.2 i x y)⟩
theorem FR_u {t j : Nat} {σ : Mem} {v : Int32} (hj : j = 1 + 9 * t + 6 ∨ j = 1 + 9 * t + 7) : FR t σ (up σ 61 j v) := ⟨fun a ha => up_ne ha, fun i x y => up_off (by omega)⟩
section NX
variable {S : Nat × (Nat → Int32)} {d t : Nat} {Q : MQ1} {r : Nat → Int32}
/-- the rows of r that the search looks at stand as they did -/
def SM (r : Nat → Int32) (t : Nat) (τ : Mem) : Prop := τ 61 (1 + 9 * t + 3) = r (1 + 9 * t + 3) ∧ ∀ w, w < 6 → τ 61 (79 + w) = r (79 + w)
theorem SM.fr {σ σ' : Mem} (ht : t < 8) (h : SM r t σ) (f : FR t σ σ') : SM r t σ' := ⟨by rw [f.2 _ (by omega) (by omega)]; exact h.1, fun w hw => by rw [f.2 _ (by omega) (by omega)]; exact h.2 w hw⟩
theorem rit_sm {τ : Mem} {f : Nat} {y : Int32} (h : SM r t τ) : rit (τ 61) t f y ↔ rit r t f y := by
  unfold rit rt
  rw [h.1]
  refine ⟨fun z => ⟨z.1, fun k => ?_⟩, fun z => ⟨z.1, fun k => ?_⟩⟩
  · obtain ⟨v, a, b, c, e⟩ := z.2 k
    exact ⟨v, a, b, by rw [← h.2 v a]; exact c, e⟩
  · obtain ⟨v, a, b, c, e⟩ := z.2 k
    exact ⟨v, a, b, by rw [h.2 v a]; exact c, e⟩
theorem may {τ : Mem} {f s : Nat} {Q' : MQ1} (ht : t < 8) (hr : ∃ q, q ≤ 9 ∧ r (1 + 9 * t + 3) = nI q) (hS : SM r t τ) (hf : f < 6) (hs : s ≤ 6) (e6 : τ 61 (1 + 9 * t + 6) = nI f) (e7 : τ 61 (1 + 9 * t + 7) = sx s) (hy : pmg r t (7 * f + s) → Q' [.inl 1] τ) (hn : ¬ pmg r t (7 * f + s) → Q' [.inl 0] τ) : Ec S (d + 2) 150 [.inr (some 60), .inl 2, .inl (nI t)] τ (fun rv σ' => Ev S (d + 3) 157 16 [some (.inr (some 60)), some (.inl (nI t))] (rv ++ []) σ' Q') := by
  unfold pmg at hy hn
  rw [(sx_ogs hs).1, (sx_ogs hs).2] at hy hn
  refine mk2 ht hf e6 (fun z => g_157_16 (br_f (by decide) ?_)) (fun z => g_157_16 (br_t rfl (hn (fun k => k.1 ((hS.2 f hf).symm.trans z)))))
  rw [hS.2 f hf] at z
  refine mk4 ht hf (by rw [hS.1]; exact hr) e6 (by rw [e7]; exact sx_w hs) (fun k => g_157_21 (br_f (by decide) (hy ⟨z, ?_⟩))) (fun k => g_157_21 (br_t rfl (hn (fun k' => k ?_))))
  · rw [e7] at k
    exact (rit_sm hS).mp k
  · rw [e7]
    exact (rit_sm hS).mpr k'.2
theorem nx_tail {τ : Mem} {f s : Nat} (ht : t < 8) (hr : ∃ q, q ≤ 9 ∧ r (1 + 9 * t + 3) = nI q) (hS : SM r t τ) (hf : f ≤ 6) (hs : s ≤ 9) (e6 : τ 61 (1 + 9 * t + 6) = nI f) (e7 : τ 61 (1 + 9 * t + 7) = sx s) (hfin : f = 6 → Q [.inl 0] τ) (hyes : f < 6 → s ≤ 6 → pmg r t (7 * f + s) → Q [.inl 1] τ) (hrec : f < 6 → ¬ (s ≤ 6 ∧ pmg r t (7 * f + s)) → Ev S (d + 4) 158 0 [some (.inr (some 60)), some (.inl (nI t))] [] τ Q) :
    (∃ j7 : Nat, (1 + (9 * nI t)) + 6 = nI j7 ∧ j7 < 86 ∧ ((6 ≤ (τ 61 j7) → (∃ j8 : Nat, (1 + (9 * nI t)) + 6 = nI j8 ∧ j8 < 86 ∧ ((6 ≤ (τ 61 j8) → Q [.inl 0] τ) ∧ (¬ (6 ≤ (τ 61 j8)) → Q [.inl 1] τ)))) ∧ (¬ (6 ≤ (τ 61 j7)) → (∃ j9 : Nat, (1 + (9 * nI t)) + 6 = nI j9 ∧ j9 < 86 ∧ ((6 ≤ (τ 61 j9) → Ev S (d + 4) 158 0 [some (.inr (some 60)), some (.inl (nI t))] [] τ Q) ∧ (¬ (6 ≤ (τ 61 j9)) → (∃ j10 : Nat, (1 + (9 * nI t)) + 7 = nI j10 ∧ j10 < 86 ∧ ((6 ≤ (τ 61 j10) → Ev S (d + 4) 158 0 [some (.inr (some 60)), some (.inl (nI t))] [] τ Q) ∧ (¬ (6 ≤ (τ 61 j10)) → Ec S (d + 2) 150 [.inr (some 60), .inl 2, .inl (nI t)] τ (fun rv σ' => Ev S (d + 3) 157 16 [some (.inr (some 60)), some (.inl (nI t))] (rv ++ []) σ' (fun rv σ' => Ev S (d + 4) 158 48 [some (.inr (some 60)), some (.inl (nI t))] (rv ++ []) σ' Q))))))))))) := by
  refine ⟨_, ix9 t 6, by omega, ?_⟩
  rw [e6]
  by_cases h6 : f = 6
  · subst h6
    exact br_t (by decide) ⟨_, ix9 t 6, by omega, by rw [e6]; exact br_t (by decide) (hfin rfl)⟩
  · have n6 : ¬ (6 : Int32) ≤ nI f := nI_ge (b := 6) (by omega) (by decide)
    refine br_f n6 ⟨_, ix9 t 6, by omega, ?_⟩
    rw [e6]
    refine br_f n6 ⟨_, ix9 t 7, by omega, ?_⟩
    by_cases hs6 : s ≤ 6
    · refine br_f ?_ ?_
      · rw [e7]
        rcases sx_w hs6 with z | ⟨w, hw, z⟩
        · rw [z]
          decide
        · rw [z]
          exact nI_ge (b := 6) (by omega) (by decide)
      · refine may ht hr hS (by omega) hs6 e6 e7 (fun z => g_158_48 (br_f (by decide) ⟨_, ix9 t 6, by omega, ?_⟩)) (fun z => g_158_48 (br_t rfl (hrec (by omega) (fun k => z k.2))))
        rw [e6]
        exact br_f n6 (hyes (by omega) hs6 z)
    · refine br_t ?_ (hrec (by omega) (fun k => hs6 k.1))
      rw [e7]
      unfold sx
      rw [if_neg (by omega)]
      exact nI_le (a := 6) (by omega) (by omega)
theorem rt_of {q : Nat} (hq : q ≤ 9) (e : r (1 + 9 * t + 3) = nI q) : rt r t = q := by
  unfold rt
  rw [e]
  exact nI_clamp (by omega)
/-- which codes can't stand, by the return alone -/
theorem no_pm {q f s : Nat} (hq : q ≤ 9) (e : r (1 + 9 * t + 3) = nI q) (hs : s ≤ 6) (h : (q = 0 ∧ s ≠ 0) ∨ (q ≠ 0 ∧ s < f + 2)) : ¬ pmg r t (7 * f + s) := by
  intro z
  have z2 := z.2
  rw [(sx_ogs hs).1, (sx_ogs hs).2] at z2
  unfold rit at z2
  rw [e] at z2
  rcases h with ⟨h1, h2⟩ | ⟨h1, h2⟩
  · subst h1
    have := z2.1 rfl
    unfold sx at this
    rw [if_neg h2] at this
    exact nI_m1 (by omega) this
  · obtain ⟨v, hv, ev, -, h4, -⟩ := z2.2 (fun k => h1 ((nI_inj (b := 0) (by omega) (by decide)).mp k))
    unfold sx at ev
    split at ev
    · exact nI_m1 (by omega) ev.symm
    · have := one_f (by omega) hv ev
      omega
theorem nx {q0 : Nat} (ht : t < 8) (hq : q0 ≤ 9) (er : r (1 + 9 * t + 3) = nI q0) : ∀ (fuel f s : Nat) (σ : Mem), 50 ≤ 7 * f + s + fuel → f ≤ 5 → s ≤ 7 → (s = 7 → f = 5) → ((q0 = 0 ∧ s = 0) ∨ (q0 ≠ 0 ∧ f + 2 ≤ s)) → SM r t σ → σ 61 (1 + 9 * t + 6) = nI f → σ 61 (1 + 9 * t + 7) = sx s →
    (∀ (g : Nat) (σ' : Mem), 7 * f + s < g → g < 42 → pmg r t g → (∀ j, 7 * f + s < j → j < g → ¬ pmg r t j) → FR t σ σ' → σ' 61 (1 + 9 * t + 6) = nI (ogf g) → σ' 61 (1 + 9 * t + 7) = ogs g → Q [.inl 1] σ') →
    (∀ σ' : Mem, (∀ j, 7 * f + s < j → j < 42 → ¬ pmg r t j) → FR t σ σ' → Q [.inl 0] σ') → Ev S (d + 4) 158 0 [some (.inr (some 60)), some (.inl (nI t))] [] σ Q
  | 0, f, s, σ, hfu, hf, hs, _, _, _, _, _, _, _ => by omega
  | fuel + 1, f, s, σ, hfu, hf, hs, hs7, hc, hS, e6, e7, hy, hn => by
    -- what follows a step to (f', s')
    have step : ∀ (f' s' : Nat) (τ : Mem), 7 * f + s < 7 * f' + s' → f' ≤ 6 → s' ≤ 9 → (f' < 6 → s' ≤ 7 ∧ (s' = 7 → f' = 5)) → ((q0 = 0 ∧ s' = 0) ∨ (q0 ≠ 0 ∧ f' + 2 ≤ s')) → (∀ j, 7 * f + s < j → j < 7 * f' + s' → j < 42 → ¬ pmg r t j) → FR t σ τ → τ 61 (1 + 9 * t + 6) = nI f' → τ 61 (1 + 9 * t + 7) = sx s' →
        (∃ j7 : Nat, (1 + (9 * nI t)) + 6 = nI j7 ∧ j7 < 86 ∧ ((6 ≤ (τ 61 j7) → (∃ j8 : Nat, (1 + (9 * nI t)) + 6 = nI j8 ∧ j8 < 86 ∧ ((6 ≤ (τ 61 j8) → Q [.inl 0] τ) ∧ (¬ (6 ≤ (τ 61 j8)) → Q [.inl 1] τ)))) ∧ (¬ (6 ≤ (τ 61 j7)) → (∃ j9 : Nat, (1 + (9 * nI t)) + 6 = nI j9 ∧ j9 < 86 ∧ ((6 ≤ (τ 61 j9) → Ev S (d + 4) 158 0 [some (.inr (some 60)), some (.inl (nI t))] [] τ Q) ∧ (¬ (6 ≤ (τ 61 j9)) → (∃ j10 : Nat, (1 + (9 * nI t)) + 7 = nI j10 ∧ j10 < 86 ∧ ((6 ≤ (τ 61 j10) → Ev S (d + 4) 158 0 [some (.inr (some 60)), some (.inl (nI t))] [] τ Q) ∧ (¬ (6 ≤ (τ 61 j10)) → Ec S (d + 2) 150 [.inr (some 60), .inl 2, .inl (nI t)] τ (fun rv σ' => Ev S (d + 3) 157 16 [some (.inr (some 60)), some (.inl (nI t))] (rv ++ []) σ' (fun rv σ' => Ev S (d + 4) 158 48 [some (.inr (some 60)), some (.inl (nI t))] (rv ++ []) σ' Q))))))))))) := by
      intro f' s' τ hlt hf' hs' h7' hc' hbet hfr e6' e7'
      refine nx_tail ht ⟨q0, hq, er⟩ (hS.fr ht hfr) hf' hs' e6' e7' (fun h6 => ?_) (fun hl hs6 hp => ?_) (fun hl hno => ?_)
      · subst h6
        exact hn τ (fun j a b => hbet j a (by omega) b) hfr
      · refine hy _ τ hlt (by omega) hp (fun j a b => hbet j a b (by omega)) hfr ?_ ?_
        · rw [(sx_ogs hs6).2]
          exact e6'
        · rw [(sx_ogs hs6).1]
          exact e7'
      · obtain ⟨a7, b7⟩ := h7' hl
        have hself : ∀ j, 7 * f + s < j → j ≤ 7 * f' + s' → j < 42 → ¬ pmg r t j := fun j a b c => by
          by_cases e : j = 7 * f' + s'
          · subst e
            exact fun z => hno ⟨by omega, z⟩
          · exact hbet j a (by omega) c
        refine nx ht hq er fuel f' s' τ (by omega) (by omega) a7 b7 hc' (hS.fr ht hfr) e6' e7' (fun g σ' x1 x2 x3 x4 x5 x6 x7 => hy g σ' (by omega) x2 x3 (fun j y1 y2 => ?_) (hfr.tr x5) x6 x7) (fun σ' x1 x2 => hn σ' (fun j y1 y2 => ?_) (hfr.tr x2))
        · by_cases e : j ≤ 7 * f' + s'
          · exact hself j y1 e (by omega)
          · exact x4 j (by omega) y2
        · by_cases e : j ≤ 7 * f' + s'
          · exact hself j y1 e y2
          · exact x1 j (by omega) y2
    have u6 : ∀ v : Int32, up σ 61 (1 + 9 * t + 6) v 61 (1 + 9 * t + 3) = nI q0 := fun v => by rw [up_off (by omega), hS.1, er]
    refine g_158_0 ⟨_, ix9 t 3, by omega, ?_⟩
    rw [hS.1, er]
    rcases hc with ⟨rfl, rfl⟩ | ⟨hq0, hs2⟩
    · -- it does not come again
      refine br_t (by decide) ⟨_, ix9 t 6, by omega, _, ix9 t 6, by omega, _, ix9 t 3, by omega, ?_⟩
      rw [u6, e6, nI_1]
      refine br_f (not_not_intro rfl) ⟨_, ix9 t 7, by omega, ?_⟩
      refine step (f + 1) 0 _ (by omega) (by omega) (by omega) (fun _ => ⟨by omega, fun z => by omega⟩) (Or.inl ⟨rfl, rfl⟩) (fun j a b c => ?_) ((FR_u (Or.inl rfl)).tr (FR_u (Or.inr rfl))) ?_ ?_
      · rw [show j = 7 * f + (j - 7 * f) by omega]
        exact no_pm hq er (by omega) (Or.inl ⟨rfl, by omega⟩)
      · rw [up_off (by omega), up_self]
      · rw [up_self]
        rfl
    · have hq0n : ¬ nI q0 ≤ 0 := nI_nle (by omega) (by omega)
      have hq0z : ¬ nI q0 = 0 := nI_ne0 (by omega) (by omega)
      refine br_f hq0n ⟨_, ix9 t 7, by omega, ?_⟩
      rw [e7]
      by_cases h5 : 6 ≤ s
      · refine br_t ?_ ⟨_, ix9 t 6, by omega, _, ix9 t 6, by omega, _, ix9 t 3, by omega, ?_⟩
        · unfold sx
          rw [if_neg (by omega)]
          exact nI_le (a := 5) (by omega) (by omega)
        rw [u6, e6, nI_1]
        refine br_t hq0z ⟨_, ix9 t 6, by omega, _, ix9 t 7, by omega, ?_⟩
        rw [up_self, nI_1]
        refine step (f + 1) (f + 3) _ (by omega) (by omega) (by omega) (fun _ => ⟨by omega, fun z => by omega⟩) (Or.inr ⟨hq0, by omega⟩) (fun j a b c => ?_) ((FR_u (Or.inl rfl)).tr (FR_u (Or.inr rfl))) ?_ ?_
        · by_cases e : j < 7 * (f + 1)
          · omega
          · rw [show j = 7 * (f + 1) + (j - 7 * (f + 1)) by omega]
            exact no_pm hq er (by omega) (Or.inr ⟨hq0, by omega⟩)
        · rw [up_off (by omega), up_self]
        · rw [up_self]
          unfold sx
          rw [if_neg (by omega)]
          rfl
      · refine br_f ?_ ⟨_, ix9 t 7, by omega, _, ix9 t 7, by omega, ?_⟩
        · unfold sx
          rw [if_neg (by omega)]
          exact nI_ge (b := 5) (by omega) (by decide)
        rw [e7, sx_1]
        refine step f (s + 1) _ (by omega) (by omega) (by omega) (fun _ => ⟨by omega, fun z => by omega⟩) (Or.inr ⟨hq0, by omega⟩) (fun j a b c => by omega) (FR_u (Or.inr rfl)) ?_ ?_
        · rw [up_off (by omega)]
          exact e6
        · rw [up_self]
theorem m_next {q0 g : Nat} {σ : Mem} (ht : t < 8) (hq : q0 ≤ 9) (er : r (1 + 9 * t + 3) = nI q0) (hg : g < 42) (hp : pmg r t g) (hS : SM r t σ) (e6 : σ 61 (1 + 9 * t + 6) = nI (ogf g)) (e7 : σ 61 (1 + 9 * t + 7) = ogs g)
    (hy : ∀ (g' : Nat) (σ' : Mem), g < g' → g' < 42 → pmg r t g' → (∀ j, g < j → j < g' → ¬ pmg r t j) → FR t σ σ' → σ' 61 (1 + 9 * t + 6) = nI (ogf g') → σ' 61 (1 + 9 * t + 7) = ogs g' → Q [.inl 1] σ')
    (hn : ∀ σ' : Mem, (∀ j, g < j → j < 42 → ¬ pmg r t j) → FR t σ σ' → Q [.inl 0] σ') : Ec S (d + 4) 158 [.inr (some 60), .inl (nI t)] σ Q := by
  have eg : 7 * (g / 7) + g % 7 = g := by omega
  have e7' : ogs g = sx (g % 7) := rfl
  refine Ec_of rfl (nx ht hq er 50 (g / 7) (g % 7) σ (by omega) (by omega) (by omega) (by omega) ?_ hS e6 (e7.trans e7') (by rw [eg]; exact hy) (by rw [eg]; exact hn))
  by_cases h0 : q0 = 0
  · left
    refine ⟨h0, ?_⟩
    rcases Nat.eq_zero_or_pos (g % 7) with z | z
    · exact z
    · rw [← eg] at hp
      exact absurd hp (no_pm hq er (by omega) (Or.inl ⟨h0, by omega⟩))
  · right
    refine ⟨h0, ?_⟩
    rcases Nat.lt_or_ge (g % 7) (g / 7 + 2) with z | z
    · rw [← eg] at hp
      exact absurd hp (no_pm hq er (by omega) (Or.inr ⟨h0, z⟩))
    · exact z
/-- begin, as it stands in goOver -/
theorem bg {q0 : Nat} {σ : Mem} {x : Int32} {K : MQ1} (ex : x = nI t) (ht : t < 8) (hq : q0 ≤ 9) (er : r (1 + 9 * t + 3) = nI q0) (hS : SM r t σ)
    (hy : ∀ (g : Nat) (σ' : Mem), g < 42 → pmg r t g → (∀ j, j < g → ¬ pmg r t j) → FR t σ σ' → σ' 61 (1 + 9 * t + 6) = nI (ogf g) → σ' 61 (1 + 9 * t + 7) = ogs g → K [.inl 1] σ')
    (hn : ∀ σ' : Mem, (∀ j, j < 42 → ¬ pmg r t j) → FR t σ σ' → K [.inl 0] σ') :
    (∃ j2 : Nat, (1 + (9 * x)) + 6 = nI j2 ∧ j2 < 86 ∧ (∃ j3 : Nat, (1 + (9 * x)) + 3 = nI j3 ∧ j3 < 86 ∧ (((¬ ((up σ 61 j2 0) 61 j3) = 0) → (∃ j4 : Nat, (1 + (9 * x)) + 6 = nI j4 ∧ j4 < 86 ∧ (∃ j5 : Nat, (1 + (9 * x)) + 7 = nI j5 ∧ j5 < 86 ∧ (∃ j6 : Nat, (1 + (9 * x)) + 6 = nI j6 ∧ j6 < 86 ∧ ((6 ≤ ((up (up σ 61 j2 0) 61 j5 (((up σ 61 j2 0) 61 j4) + 1)) 61 j6) → Ec S (d + 4) 158 [.inr (some 60), .inl x] (up (up σ 61 j2 0) 61 j5 (((up σ 61 j2 0) 61 j4) + 1)) (fun rv σ' => Ev S (d + 5) 159 19 [some (.inr (some 60)), some (.inl x)] (rv ++ []) σ' K)) ∧ (¬ (6 ≤ ((up (up σ 61 j2 0) 61 j5 (((up σ 61 j2 0) 61 j4) + 1)) 61 j6)) → (∃ j7 : Nat, (1 + (9 * x)) + 7 = nI j7 ∧ j7 < 86 ∧ ((6 ≤ ((up (up σ 61 j2 0) 61 j5 (((up σ 61 j2 0) 61 j4) + 1)) 61 j7) → Ec S (d + 4) 158 [.inr (some 60), .inl x] (up (up σ 61 j2 0) 61 j5 (((up σ 61 j2 0) 61 j4) + 1)) (fun rv σ' => Ev S (d + 5) 159 19 [some (.inr (some 60)), some (.inl x)] (rv ++ []) σ' K)) ∧ (¬ (6 ≤ ((up (up σ 61 j2 0) 61 j5 (((up σ 61 j2 0) 61 j4) + 1)) 61 j7)) → Ec S (d + 3) 150 [.inr (some 60), .inl 2, .inl x] (up (up σ 61 j2 0) 61 j5 (((up σ 61 j2 0) 61 j4) + 1)) (fun rv σ' => Ev S (d + 4) 157 16 [some (.inr (some 60)), some (.inl x)] (rv ++ []) σ' (fun rv σ' => Ev S (d + 5) 159 15 [some (.inr (some 60)), some (.inl x)] (rv ++ []) σ' K))))))))))) ∧ (¬ (¬ ((up σ 61 j2 0) 61 j3) = 0) → (∃ j8 : Nat, (1 + (9 * x)) + 7 = nI j8 ∧ j8 < 86 ∧ (∃ j9 : Nat, (1 + (9 * x)) + 6 = nI j9 ∧ j9 < 86 ∧ ((6 ≤ ((up (up σ 61 j2 0) 61 j8 (-1)) 61 j9) → Ec S (d + 4) 158 [.inr (some 60), .inl x] (up (up σ 61 j2 0) 61 j8 (-1)) (fun rv σ' => Ev S (d + 5) 159 19 [some (.inr (some 60)), some (.inl x)] (rv ++ []) σ' K)) ∧ (¬ (6 ≤ ((up (up σ 61 j2 0) 61 j8 (-1)) 61 j9)) → (∃ j10 : Nat, (1 + (9 * x)) + 7 = nI j10 ∧ j10 < 86 ∧ ((6 ≤ ((up (up σ 61 j2 0) 61 j8 (-1)) 61 j10) → Ec S (d + 4) 158 [.inr (some 60), .inl x] (up (up σ 61 j2 0) 61 j8 (-1)) (fun rv σ' => Ev S (d + 5) 159 19 [some (.inr (some 60)), some (.inl x)] (rv ++ []) σ' K)) ∧ (¬ (6 ≤ ((up (up σ 61 j2 0) 61 j8 (-1)) 61 j10)) → Ec S (d + 3) 150 [.inr (some 60), .inl 2, .inl x] (up (up σ 61 j2 0) 61 j8 (-1)) (fun rv σ' => Ev S (d + 4) 157 16 [some (.inr (some 60)), some (.inl x)] (rv ++ []) σ' (fun rv σ' => Ev S (d + 5) 159 15 [some (.inr (some 60)), some (.inl x)] (rv ++ []) σ' K))))))))))))) := by
  subst ex
  have go : ∀ (s : Nat) (τ : Mem), s ≤ 6 → ((q0 = 0 ∧ s = 0) ∨ (q0 ≠ 0 ∧ 2 ≤ s)) → (∀ j, j < s → ¬ pmg r t j) → FR t σ τ → τ 61 (1 + 9 * t + 6) = nI 0 → τ 61 (1 + 9 * t + 7) = sx s → Ec S (d + 3) 150 [.inr (some 60), .inl 2, .inl (nI t)] τ (fun rv σ' => Ev S (d + 4) 157 16 [some (.inr (some 60)), some (.inl (nI t))] (rv ++ []) σ' (fun rv σ' => Ev S (d + 5) 159 15 [some (.inr (some 60)), some (.inl (nI t))] (rv ++ []) σ' K)) := by
    intro s τ hs hc hlow hfr e6 e7
    have hS' := hS.fr ht hfr
    refine may (f := 0) ht ⟨q0, hq, er⟩ hS' (by omega) hs e6 e7 (fun z => g_159_15 (br_t (by decide) ?_)) (fun z => g_159_15 (br_f (not_not_intro rfl) ?_))
    · rw [Nat.mul_zero, Nat.zero_add] at z
      have e := sx_ogs (f := 0) hs
      rw [Nat.mul_zero, Nat.zero_add] at e
      exact hy s τ (by omega) z hlow hfr (by rw [e.2]; exact e6) (by rw [e.1]; exact e7)
    · rw [Nat.mul_zero, Nat.zero_add] at z
      have hlow' : ∀ j, j ≤ s → ¬ pmg r t j := fun j hj => by
        by_cases e : j = s
        · subst e
          exact z
        · exact hlow j (by omega)
      refine Ec_of rfl (nx ht hq er 50 0 s τ (by omega) (by omega) (by omega) (by omega) (by simpa using hc) hS' e6 e7 (fun g σ' x1 x2 x3 x4 x5 x6 x7 => g_159_19 (br_f (by decide) (hy g σ' x2 x3 (fun j hj => ?_) (hfr.tr x5) x6 x7))) (fun σ' x1 x2 => g_159_19 (br_t rfl (hn σ' (fun j hj => ?_) (hfr.tr x2)))))
      · by_cases e : j ≤ s
        · exact hlow' j e
        · exact x4 j (by omega) hj
      · by_cases e : j ≤ s
        · exact hlow' j e
        · exact x1 j (by omega) hj
  refine ⟨_, ix9 t 6, by omega, _, ix9 t 3, by omega, ?_⟩
  rw [up_off (j' := 1 + 9 * t + 3) (by omega), hS.1, er]
  by_cases h0 : q0 = 0
  · subst h0
    refine br_f (not_not_intro rfl) ⟨_, ix9 t 7, by omega, _, ix9 t 6, by omega, ?_⟩
    rw [up_off (j' := 1 + 9 * t + 6) (by omega), up_self]
    refine br_f (by decide) ⟨_, ix9 t 7, by omega, ?_⟩
    rw [up_self]
    refine br_f (by decide) (go 0 _ (by omega) (Or.inl ⟨rfl, rfl⟩) (fun j hj => by omega) ((FR_u (Or.inl rfl)).tr (FR_u (Or.inr rfl))) ?_ ?_)
    · rw [up_off (by omega), up_self]
      rfl
    · rw [up_self]
      rfl
  · refine br_t (nI_ne0 (by omega) (by omega)) ⟨_, ix9 t 6, by omega, _, ix9 t 7, by omega, _, ix9 t 6, by omega, ?_⟩
    rw [up_off (j' := 1 + 9 * t + 6) (by omega), up_self]
    refine br_f (by decide) ⟨_, ix9 t 7, by omega, ?_⟩
    rw [up_self (j := 1 + 9 * t + 7)]
    refine br_f (by decide) (go 2 _ (by omega) (Or.inr ⟨h0, by omega⟩) (fun j hj => ?_) ((FR_u (Or.inl rfl)).tr (FR_u (Or.inr rfl))) ?_ ?_)
    · have := no_pm (f := 0) (s := j) hq er (by omega) (Or.inr ⟨h0, by omega⟩)
      rw [Nat.mul_zero, Nat.zero_add] at this
      exact this
    · rw [up_off (by omega), up_self]
      rfl
    · rw [up_self]
      decide
end NX
