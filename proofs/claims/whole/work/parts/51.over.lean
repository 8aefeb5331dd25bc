theorem m1_sub (x : Int32) : x + (-1) = x - 1 := (Int32.sub_eq_add_neg x 1).symm
section OV
variable {r : Nat → Int32} {n t g : Nat} {p : Nat → Nat} {ρ : Nat → Int32}
theorem row_set {N : Nat} (ht : t < N) (hs : ¬ r (1 + 9 * t) = 2) (h : ∀ i, i ≠ 1 + 9 * t + 6 → i ≠ 1 + 9 * t + 7 → ρ i = rowp r N p i) (h6 : ρ (1 + 9 * t + 6) = nI (ogf g)) (h7 : ρ (1 + 9 * t + 7) = ogs g) : ρ = rowp r N (pu p t g) := by
  funext i
  by_cases e6 : i = 1 + 9 * t + 6
  · subst e6
    rw [h6, rowp_6 ht hs, pu_s]
  · by_cases e7 : i = 1 + 9 * t + 7
    · subst e7
      rw [h7, rowp_7 ht hs, pu_s]
    · rw [h i e6 e7]
      unfold rowp
      by_cases c6 : (1 ≤ i ∧ (i - 1) / 9 < N ∧ ¬ r (1 + 9 * ((i - 1) / 9)) = 2) ∧ (i - 1) % 9 = 6
      · rw [if_pos c6, if_pos c6, pu_n (by omega)]
      · rw [if_neg c6, if_neg c6]
        by_cases c7 : (1 ≤ i ∧ (i - 1) / 9 < N ∧ ¬ r (1 + 9 * ((i - 1) / 9)) = 2) ∧ (i - 1) % 9 = 7
        · rw [if_pos c7, if_pos c7, pu_n (by omega)]
        · rw [if_neg c7, if_neg c7]
theorem row_up (hs : ¬ r (1 + 9 * t) = 2) (h : ∀ i, i ≠ 1 + 9 * t + 6 → i ≠ 1 + 9 * t + 7 → ρ i = rowp r t p i) (h6 : ρ (1 + 9 * t + 6) = nI (ogf g)) (h7 : ρ (1 + 9 * t + 7) = ogs g) : ρ = rowp r (t + 1) (pu p t g) := by
  refine row_set (by omega) hs (fun i e6 e7 => ?_) h6 h7
  rw [h i e6 e7]
  unfold rowp
  have hc : ∀ k, (k = 6 ∨ k = 7) → (((1 ≤ i ∧ (i - 1) / 9 < t ∧ ¬ r (1 + 9 * ((i - 1) / 9)) = 2) ∧ (i - 1) % 9 = k) ↔ ((1 ≤ i ∧ (i - 1) / 9 < t + 1 ∧ ¬ r (1 + 9 * ((i - 1) / 9)) = 2) ∧ (i - 1) % 9 = k)) := fun k hk => ⟨fun z => ⟨⟨z.1.1, by omega, z.1.2.2⟩, z.2⟩, fun z => ⟨⟨z.1.1, by omega, z.1.2.2⟩, z.2⟩⟩
  by_cases c6 : (1 ≤ i ∧ (i - 1) / 9 < t ∧ ¬ r (1 + 9 * ((i - 1) / 9)) = 2) ∧ (i - 1) % 9 = 6
  · rw [if_pos c6, if_pos ((hc 6 (Or.inl rfl)).mp c6)]
  · rw [if_neg c6, if_neg (fun z => c6 ((hc 6 (Or.inl rfl)).mpr z))]
    by_cases c7 : (1 ≤ i ∧ (i - 1) / 9 < t ∧ ¬ r (1 + 9 * ((i - 1) / 9)) = 2) ∧ (i - 1) % 9 = 7
    · rw [if_pos c7, if_pos ((hc 7 (Or.inr rfl)).mp c7)]
    · rw [if_neg c7, if_neg (fun z => c7 ((hc 7 (Or.inr rfl)).mpr z))]
theorem row_st (hs : r (1 + 9 * t) = 2) : rowp r (t + 1) p = rowp r t p := by
  funext i
  unfold rowp
  have hc : ∀ k, (((1 ≤ i ∧ (i - 1) / 9 < t + 1 ∧ ¬ r (1 + 9 * ((i - 1) / 9)) = 2) ∧ (i - 1) % 9 = k) ↔ ((1 ≤ i ∧ (i - 1) / 9 < t ∧ ¬ r (1 + 9 * ((i - 1) / 9)) = 2) ∧ (i - 1) % 9 = k)) := fun k => ⟨fun z => ⟨⟨z.1.1, by
    rcases Nat.lt_or_ge ((i - 1) / 9) t with w | w
    · exact w
    · have e : (i - 1) / 9 = t := by omega
      rw [e] at z
      exact absurd hs z.1.2.2, z.1.2.2⟩, z.2⟩, fun z => ⟨⟨z.1.1, by omega, z.1.2.2⟩, z.2⟩⟩
  by_cases c6 : (1 ≤ i ∧ (i - 1) / 9 < t ∧ ¬ r (1 + 9 * ((i - 1) / 9)) = 2) ∧ (i - 1) % 9 = 6
  · rw [if_pos c6, if_pos ((hc 6).mpr c6)]
  · rw [if_neg c6, if_neg (fun z => c6 ((hc 6).mp z))]
    by_cases c7 : (1 ≤ i ∧ (i - 1) / 9 < t ∧ ¬ r (1 + 9 * ((i - 1) / 9)) = 2) ∧ (i - 1) % 9 = 7
    · rw [if_pos c7, if_pos ((hc 7).mpr c7)]
    · rw [if_neg c7, if_neg (fun z => c7 ((hc 7).mp z))]
theorem row_00 : rowp r 0 p = r := by
  funext i
  unfold rowp
  rw [if_neg (fun z => absurd z.1.2.1 (Nat.not_lt_zero _)), if_neg (fun z => absurd z.1.2.1 (Nat.not_lt_zero _))]
/-- a row that has two fields of each topic anew -/
theorem row_fill {u v : Nat → Int32} {ρ' : Nat → Int32} (h6 : ∀ t, t < n → ¬ r (1 + 9 * t) = 2 → ρ (1 + 9 * t + 6) = ρ' (1 + 9 * t + 6) ∧ ρ (1 + 9 * t + 7) = ρ' (1 + 9 * t + 7)) (ho : ∀ i, (∀ t, t < n → ¬ r (1 + 9 * t) = 2 → i ≠ 1 + 9 * t + 6 ∧ i ≠ 1 + 9 * t + 7) → ρ i = ρ' i) : ρ = ρ' := by
  funext i
  by_cases h : ∀ t, t < n → ¬ r (1 + 9 * t) = 2 → i ≠ 1 + 9 * t + 6 ∧ i ≠ 1 + 9 * t + 7
  · exact ho i h
  · have h' : ∃ t, t < n ∧ ¬ r (1 + 9 * t) = 2 ∧ ¬ (i ≠ 1 + 9 * t + 6 ∧ i ≠ 1 + 9 * t + 7) := Classical.byContradiction (fun z => h (fun t a b => Classical.byContradiction (fun y => z ⟨t, a, b, y⟩)))
    obtain ⟨t, ht, hs, hne⟩ := h'
    obtain ⟨a, b⟩ := h6 t ht hs
    by_cases e : i = 1 + 9 * t + 6
    · rw [e, a]
    · have e7 : i = 1 + 9 * t + 7 := Classical.byContradiction (fun z => hne ⟨e, z⟩)
      rw [e7, b]
theorem row_out {i : Nat} (h : ∀ t, t < n → ¬ r (1 + 9 * t) = 2 → i ≠ 1 + 9 * t + 6 ∧ i ≠ 1 + 9 * t + 7) : rowp r n p i = r i := by
  unfold rowp
  rw [if_neg (fun z => (h _ z.1.2.1 z.1.2.2).1 (by omega)), if_neg (fun z => (h _ z.1.2.1 z.1.2.2).2 (by omega))]
theorem goM_none {bm : Bool} : ∀ (q t : Nat) (p : Nat → Nat) (A : AS), t + q = n → (∃ t', t ≤ t' ∧ t' < n ∧ ¬ r (1 + 9 * t') = 2 ∧ ∀ g, g < 42 → ¬ pmg r t' g) → goM r n bm q t p A = A
  | 0, t, p, A, ht, ⟨t', a, b, _⟩ => by omega
  | q + 1, t, p, A, ht, ⟨t', a, b, hs', c⟩ => by
    by_cases hs : r (1 + 9 * t) = 2
    · rw [goM_s hs]
      refine goM_none q (t + 1) p A (by omega) ⟨t', ?_, b, hs', c⟩
      rcases Nat.lt_or_ge t t' with w | w
      · exact w
      · have : t' = t := by omega
        subst this
        exact absurd hs hs'
    · rw [goM_n hs]
      by_cases e : t' = t
      · subst e
        have := gfold_skip (F := goF r n bm q t' p) 42 0 0 A (fun i _ h2 X => goF_f (c i (by omega)))
        exact this
      · refine gfold_inv (I := fun X => X = A) (goF_inv (fun g X hX => ?_)) 42 0 A rfl
        rw [goM_none q (t + 1) _ X (by omega) ⟨t', by omega, b, hs', c⟩]
        exact hX
end OV
section OV2
variable {S : Nat × (Nat → Int32)} {d n : Nat} {Q : MQ1} {r : Nat → Int32} {x1 : Int32}
theorem lay_loop {p1 : Nat} (hn8 : n ≤ 8) (hp1 : m_sh[p1]? = some (.inr (.inl 16))) (hne : p1 ≠ 61) : ∀ (q t : Nat) (σ : Mem), t + q = n → (σ 60 9 = nI (pos r n) ∧ ∀ t, t < n → ¬ r (1 + 9 * t) = 2 → σ 67 (pos r t) = nI t) → (∀ σ' : Mem, (∀ a, a ≠ 61 → σ' a = σ a) → (∀ t', t ≤ t' → t' < n → ¬ r (1 + 9 * t') = 2 → σ' 61 (1 + 9 * t' + 6) = σ p1 (2 * pos r t') ∧ σ' 61 (1 + 9 * t' + 7) = σ p1 (2 * pos r t' + 1)) → (∀ i, (∀ t', t ≤ t' → t' < n → ¬ r (1 + 9 * t') = 2 → i ≠ 1 + 9 * t' + 6 ∧ i ≠ 1 + 9 * t' + 7) → σ' 61 i = σ 61 i) → Q [] σ') → Ev S (d + 1) 163 2 [some (.inr (some 60)), some (.inr (some p1)), some (.inl (nI (pos r t)))] [] σ Q
  | 0, t, σ, ht, hO, h => by
    have : t = n := by omega
    subst this
    refine g_163_2 hp1 ?_
    rw [hO.1]
    exact br_t (Int32.le_refl _) (h σ (fun _ _ => rfl) (fun t' a b => by omega) (fun _ _ => rfl))
  | q + 1, t, σ, ht, hO, h => by
    by_cases hs : r (1 + 9 * t) = 2
    · have hge : ∀ t', t ≤ t' → ¬ r (1 + 9 * t') = 2 → t + 1 ≤ t' := fun t' x z => by
        rcases Nat.lt_or_ge t t' with w | w
        · exact w
        · have : t' = t := by omega
          subst this
          exact absurd hs z
      have ih := lay_loop hn8 hp1 hne q (t + 1) σ (by omega) hO (fun σ' a b c => h σ' a (fun t' x y z => b t' (hge t' x z) y z) (fun i hi => c i (fun t' x y z => hi t' (by omega) y z)))
      rw [pos_s hs] at ih
      exact ih
    · have o1 := hO.2 t (by omega) hs
      have hpl := pos_lt (show t < n by omega) hs
      have hpn := pos_id (r := r) n
      refine g_163_2 hp1 ?_
      rw [hO.1]
      refine br_f (nI_ge hpl (by omega)) ⟨pos r t, rfl, by omega, _, ix2 _, by omega, 1 + 9 * t + 6, by rw [o1]; exact ix9 t 6, by omega, pos r t, rfl, by omega, _, ix21 _, by omega, 1 + 9 * t + 7, by rw [up_ne (by decide), o1]; exact ix9 t 7, by omega, ?_⟩
      rw [up_ne (a' := p1) hne, nI_1, ← pos_n hs]
      refine lay_loop hn8 hp1 hne q (t + 1) _ (by omega) ⟨by rw [up_ne (by decide), up_ne (by decide)]; exact hO.1, fun t' a b => by rw [up_ne (by decide), up_ne (by decide)]; exact hO.2 t' a b⟩ (fun σ' a b c => h σ' (fun x hx => by rw [a x hx, up_ne hx, up_ne hx]) (fun t' x y z => ?_) (fun i hi => ?_))
      · by_cases e : t' = t
        · subst e
          rw [c _ (fun t'' x1 _ _ => by omega), c _ (fun t'' x1 _ _ => by omega), up_self, up_off (by omega), up_self]
          exact ⟨rfl, rfl⟩
        · have := b t' (by omega) y z
          rw [up_ne hne, up_ne hne] at this
          exact this
      · have hi0 := hi t (by omega) (by omega) hs
        rw [c i (fun t' x y z => hi t' (by omega) y z), up_off hi0.2, up_off hi0.1]
theorem ow_loop (hR : RI r n) {o3 o4 : Option MV} : ∀ (q t : Nat) (σ : Mem), t + q = n → σ 61 = r → σ 60 9 = nI (pos r t) → (∀ t', t' < t → ¬ r (1 + 9 * t') = 2 → σ 67 (pos r t') = nI t' ∧ σ 68 (2 * pos r t') = r (1 + 9 * t' + 6) ∧ σ 68 (2 * pos r t' + 1) = r (1 + 9 * t' + 7)) → (∀ σ' : Mem, (∀ a, a ≠ 60 → a ≠ 67 → a ≠ 68 → σ' a = σ a) → (∀ j, j ≠ 9 → σ' 60 j = σ 60 j) → OW r n σ' → (pos r n ≤ 4 → Ev S (d + 6) 162 66 [some (.inr (some 60)), some (.inl x1), some (.inl 1), some (.inl 0), o4] [] (up σ' 60 12 0) Q) ∧ (4 < pos r n → Q [.inl 0] σ')) → Ev S (d + 6) 162 5 [some (.inr (some 60)), some (.inl x1), some (.inl (nI t)), o3, o4] [] σ Q
  | 0, t, σ, ht, h61, h9, hO, h => by
    have hn8 := hR.1
    have hpn := pos_id (r := r) n
    have : t = n := by omega
    subst this
    refine g_162_5 ?_
    rw [h61, hR.2.1]
    have hh := h σ (fun _ _ _ _ => rfl) (fun _ _ => rfl) ⟨h9, hO⟩
    refine br_t (Int32.le_refl _) ?_
    rw [h9]
    by_cases h4 : pos r t ≤ 4
    · exact br_t (nI_le (b := 4) h4 (by decide)) (hh.1 h4)
    · exact br_f (nI_ge (a := 4) (by omega) (by omega)) (hh.2 (by omega))
  | q + 1, t, σ, ht, h61, h9, hO, h => by
    have hn8 := hR.1
    refine g_162_5 ?_
    rw [h61, hR.2.1]
    refine br_f (nI_ge (by omega) (by omega)) ⟨_, ix90 t, by omega, ?_⟩
    rw [nI_1]
    by_cases hs : r (1 + 9 * t) = 2
    · refine br_f (not_not_intro hs) (ow_loop hR q (t + 1) σ (by omega) h61 (by rw [pos_s hs]; exact h9) (fun t' x z => hO t' ?_ z) h)
      rcases Nat.lt_or_ge t' t with w | w
      · exact w
      · have : t' = t := by omega
        subst this
        exact absurd hs z
    · have hpt := pos_id (r := r) t
      refine br_t hs ⟨pos r t, h9, by omega, _, ix9 t 6, by omega, 2 * pos r t, ?_, by omega, _, ix9 t 7, by omega, 2 * pos r t + 1, ?_, by omega, ?_⟩
      · rw [up_ne (by decide), h9]
        exact ix2 _
      · rw [up_ne (by decide), up_ne (by decide), h9]
        exact ix21 _
      · rw [show up σ 67 (pos r t) (nI t) 61 = r by rw [up_ne (by decide), h61], show up (up σ 67 (pos r t) (nI t)) 68 (2 * pos r t) (r (1 + 9 * t + 6)) 61 = r by rw [up_ne (by decide), up_ne (by decide), h61]]
        generalize hτ : up (up (up (up σ 67 (pos r t) (nI t)) 68 (2 * pos r t) (r (1 + 9 * t + 6))) 68 (2 * pos r t + 1) (r (1 + 9 * t + 7))) 60 9 (up (up (up σ 67 (pos r t) (nI t)) 68 (2 * pos r t) (r (1 + 9 * t + 6))) 68 (2 * pos r t + 1) (r (1 + 9 * t + 7)) 60 9 + 1) = τ
        refine ow_loop hR q (t + 1) τ (by omega) ?_ ?_ (fun t' x z => ?_) (fun σ' a b c => h σ' (fun y y1 y2 y3 => ?_) (fun j hj => ?_) c)
        · rw [← hτ, up_ne (by decide), up_ne (by decide), up_ne (by decide), up_ne (by decide)]
          exact h61
        · rw [← hτ, up_self, up_ne (by decide), up_ne (by decide), up_ne (by decide), h9, nI_1, pos_n hs]
        · have e67 : τ 67 = up σ 67 (pos r t) (nI t) 67 := by rw [← hτ, up_ne (by decide), up_ne (by decide), up_ne (by decide)]
          have e68 : ∀ j, τ 68 j = if j = 2 * pos r t + 1 then r (1 + 9 * t + 7) else if j = 2 * pos r t then r (1 + 9 * t + 6) else σ 68 j := fun j => by rw [← hτ, up_ne (by decide), up_at, up_at, up_ne (by decide)]
          rw [e67, e68, e68]
          by_cases e : t' = t
          · subst e
            rw [up_self, if_neg (by omega), if_pos rfl, if_pos rfl]
            exact ⟨rfl, rfl, rfl⟩
          · have hpp := pos_lt (show t' < t by omega) z
            rw [up_off (by omega), if_neg (by omega), if_neg (by omega), if_neg (by omega), if_neg (by omega)]
            exact hO t' (by omega) z
        · rw [a y y1 y2 y3, ← hτ, up_ne y1, up_ne y3, up_ne y3, up_ne y2]
        · rw [b j hj, ← hτ, up_off hj, up_ne (by decide), up_ne (by decide), up_ne (by decide)]
def fcd (r : Nat → Int32) (t g : Nat) : Prop := g < 42 ∧ pmg r t g ∧ ∀ j, j < g → ¬ pmg r t j
theorem fcd_one {t g g' : Nat} (h : fcd r t g) (h' : fcd r t g') : g = g' := by
  rcases Nat.lt_trichotomy g g' with q | q | q
  · exact absurd h.2.1 (h'.2.2 g q)
  · exact q
  · exact absurd h'.2.1 (h.2.2 g' q)
theorem SM_row {t N : Nat} {p : Nat → Nat} {σ : Mem} (ht : t < 8) (hN : N ≤ 8) (h : σ 61 = rowp r N p) : SM r t σ := ⟨by rw [h]; exact rowp_k (by decide) (by decide) (by decide), fun w hw => by rw [h]; exact rowp_hi hN (by omega)⟩
theorem bg_loop (hR : RI r n) {o4 : Option MV} : ∀ (q t : Nat) (p : Nat → Nat) (σ : Mem), t + q = n → OW r n σ → σ 61 = rowp r t p → (∀ t', t' < t → ¬ r (1 + 9 * t') = 2 → fcd r t' (p t')) →
    (∀ (σ' : Mem) (p' : Nat → Nat) (x : Int32), (∀ a, a ≠ 61 → σ' a = σ a) → σ' 61 = rowp r n p' → (∀ t', t' < n → ¬ r (1 + 9 * t') = 2 → fcd r t' (p' t')) → Ev S (d + 6) 162 81 [some (.inr (some 60)), some (.inl x1), some (.inl 1), some (.inl x), o4] [] σ' Q) →
    (∀ (σ' : Mem) (x : Int32), (∀ a, a ≠ 61 → σ' a = σ a) → (∃ t', t' < n ∧ ¬ r (1 + 9 * t') = 2 ∧ ∀ g, g < 42 → ¬ pmg r t' g) → (∀ i, (∀ t', t' < n → ¬ r (1 + 9 * t') = 2 → i ≠ 1 + 9 * t' + 6 ∧ i ≠ 1 + 9 * t' + 7) → σ' 61 i = r i) → Ev S (d + 6) 162 81 [some (.inr (some 60)), some (.inl x1), some (.inl 0), some (.inl x), o4] [] σ' Q) →
    Ev S (d + 6) 162 66 [some (.inr (some 60)), some (.inl x1), some (.inl 1), some (.inl (nI (pos r t))), o4] [] σ Q
  | 0, t, p, σ, ht, hO, h61, hf, hy, hn => by
    have : t = n := by omega
    subst this
    refine g_162_66 ?_
    rw [hO.1]
    exact br_t (Int32.le_refl _) (hy σ p _ (fun _ _ => rfl) h61 hf)
  | q + 1, t, p, σ, ht, hO, h61, hf, hy, hn => by
    have hn8 := hR.1
    by_cases hs : r (1 + 9 * t) = 2
    · have ih := bg_loop hR (o4 := o4) q (t + 1) p σ (by omega) hO (by rw [row_st hs]; exact h61) (fun t' x z => hf t' (by
        rcases Nat.lt_or_ge t' t with w | w
        · exact w
        · have : t' = t := by omega
          subst this
          exact absurd hs z) z) hy hn
      rw [pos_s hs] at ih
      exact ih
    · have hpl := pos_lt (show t < n by omega) hs
      have hpn := pos_id (r := r) n
      obtain ⟨er, hq⟩ := rt_ok hR (show t < n by omega)
      refine g_162_66 ?_
      rw [hO.1]
      refine br_f (nI_ge hpl (by omega)) (br_f (by decide) ⟨pos r t, rfl, by omega, bg (t := t) (hO.2 t (by omega) hs).1 (by omega) hq er (SM_row (by omega) (by omega) h61) (fun g σ' g1 g2 g3 g4 g5 g6 => g_162_78 ?_) (fun σ' g1 g2 => g_162_78 ?_)⟩)
      · rw [nI_1, ← pos_n hs]
        have hO' : OW r n σ' := by
          unfold OW
          rw [g4.1 60 (by decide), g4.1 67 (by decide), g4.1 68 (by decide)]
          exact hO
        have e61 : σ' 61 = rowp r (t + 1) (pu p t g) := row_up hs (fun i a b => by rw [g4.2 i a b, h61]) g5 g6
        refine bg_loop hR q (t + 1) (pu p t g) σ' (by omega) hO' e61 (fun t' x z => ?_) (fun σ'' p' x a b c => hy σ'' p' x (fun y hy' => by rw [a y hy', g4.1 y hy']) b c) (fun σ'' x a b c => hn σ'' x (fun y hy' => by rw [a y hy', g4.1 y hy']) b c)
        by_cases e : t' = t
        · subst e
          rw [pu_s]
          exact ⟨g1, g2, g3⟩
        · rw [pu_n e]
          exact hf t' (by omega) z
      · have out : ∀ x : Int32, Ev S (d + 6) 162 81 [some (.inr (some 60)), some (.inl x1), some (.inl 0), some (.inl x), o4] [] σ' Q := fun x => hn σ' x g2.1 ⟨t, by omega, hs, g1⟩ (fun i hi => by
          have hi0 := hi t (by omega) hs
          rw [g2.2 i hi0.1 hi0.2, h61]
          exact row_out (fun t' a b => hi t' (by omega) b))
        exact g_162_66 ⟨fun _ => out _, fun _ => br_t rfl (out _)⟩
def MIv (r : Nat → Int32) (n : Nat) (σs σ : Mem) (p : Nat → Nat) (A : AS) : Prop := σ 61 = rowp r n p ∧ (∀ a, a ≠ 60 → a ≠ 61 → a ≠ 69 → σ a = σs a) ∧ (∀ j, j ≠ 12 → j ≠ 13 → j ≠ 14 → σ 60 j = σs 60 j) ∧ RelM r n σ A
theorem MIv.ow {σs σ : Mem} {p : Nat → Nat} {A : AS} (h : MIv r n σs σ p A) (hO : OW r n σs) : OW r n σ := by
  unfold OW
  rw [h.2.2.1 9 (by decide) (by decide) (by decide), h.2.1 67 (by decide) (by decide) (by decide), h.2.1 68 (by decide) (by decide) (by decide)]
  exact hO
theorem MIv.fr {σs σ σ' : Mem} {p : Nat → Nat} {A : AS} {t g : Nat} (h : MIv r n σs σ p A) (ht : t < n) (hs : ¬ r (1 + 9 * t) = 2) (f : FR t σ σ') (h6 : σ' 61 (1 + 9 * t + 6) = nI (ogf g)) (h7 : σ' 61 (1 + 9 * t + 7) = ogs g) : MIv r n σs σ' (pu p t g) A := by
  refine ⟨row_set ht hs (fun i a b => by rw [f.2 i a b, h.1]) h6 h7, fun a x y z => by rw [f.1 a y]; exact h.2.1 a x y z, fun j x y z => by rw [f.1 60 (by decide)]; exact h.2.2.1 j x y z, ?_⟩
  unfold RelM
  rw [f.1 60 (by decide), f.1 69 (by decide)]
  exact h.2.2.2
theorem pu_pu {p : Nat → Nat} {t a b : Nat} : pu (pu p t a) t b = pu p t b := by
  funext i
  unfold pu
  split <;> rfl
theorem pu_id {p : Nat → Nat} {t : Nat} : pu p t (p t) = p := by
  funext i
  unfold pu
  split
  · rename_i h
    rw [h]
  · rfl
theorem Gm {bm : Bool} {σs : Mem} (hx : x1 = 0 ↔ bm = false) (hR : RI r n) (hO : OW r n σs) : ∀ (q t : Nat) (p p0 : Nat → Nat) (A : AS) (σ : Mem) (o3 o4 : Option MV), t + q = n → MIv r n σs σ p A → (∀ i, i < t → ¬ r (1 + 9 * i) = 2 → p0 i = p i) → (∀ t', t' < n → ¬ r (1 + 9 * t') = 2 → p t' < 42 ∧ pmg r t' (p t')) → (∀ t', t ≤ t' → t' < n → ¬ r (1 + 9 * t') = 2 → fcd r t' (p t')) → A.1 + wb r q t < 2 ^ 30 →
    (∀ (σ' : Mem) (o2 o4 : Option MV), MIv r n σs σ' p (goM r n bm q t p0 A) → Ev S (d + 6) 162 91 [some (.inr (some 60)), some (.inl x1), o2, some (.inl (nI (pos r t) - 1)), o4] [] σ' Q) →
    Ev S (d + 6) 162 81 [some (.inr (some 60)), some (.inl x1), some (.inl 1), o3, o4] [] σ Q
  | 0, t, p, p0, A, σ, o3, o4, ht, hM, hag, hp, hf, hB, h => by
    have : t = n := by omega
    subst this
    have erow : rowp r t p = rowp r t p0 := rowp_congr (fun i hi hh => (hag i hi hh).symm)
    refine g_162_81 (br_f (by decide) (m_look (p := p0) (A := A) hx hR (hM.ow hO) (by rw [hM.1, erow]) (fun t' a b => by rw [hag t' a b]; exact hp t' a b) hM.2.2.2 (by omega) (fun σ' l1 l2 => g_162_86 ?_)))
    rw [l1.2 9 (by decide) (by decide) (by decide), (hM.ow hO).1]
    exact h σ' _ _ ⟨by rw [l1.1 61 (by decide) (by decide)]; exact hM.1, fun a x y z => by rw [l1.1 a x z]; exact hM.2.1 a x y z, fun j x y z => by rw [l1.2 j x y z]; exact hM.2.2.1 j x y z, l2⟩
  | q + 1, t, p, p0, A, σ, o3, o4, ht, hM, hag, hp, hf, hB, h => by
    have hn8 := hR.1
    by_cases hs : r (1 + 9 * t) = 2
    · refine Gm hx hR hO q (t + 1) p p0 A σ o3 o4 (by omega) hM (fun i hi hh => hag i ?_ hh) hp (fun t' a => hf t' (by omega)) (by rw [show wb r (q + 1) t = wb r q (t + 1) from if_pos hs] at hB; exact hB) (fun σ' o2 o4 hM' => ?_)
      · rcases Nat.lt_or_ge i t with w | w
        · exact w
        · have : i = t := by omega
          subst this
          exact absurd hs hh
      · rw [pos_s hs]
        refine h σ' o2 o4 ?_
        rw [goM_s hs]
        exact hM'
    · have htn : t < n := by omega
      have hpl := pos_lt htn hs
      have hpn := pos_id (r := r) n
      have hW : wb r (q + 1) t = 42 * wb r q (t + 1) := if_neg hs
      rw [hW] at hB
      obtain ⟨er, hq9⟩ := rt_ok hR htn
      have hfc := hf t (by omega) htn hs
      rw [goM_n hs] at h
      have hag' : ∀ g i, i < t + 1 → ¬ r (1 + 9 * i) = 2 → pu p0 t g i = pu p t g i := fun g i hi hh => by
        by_cases e : i = t
        · subst e
          rw [pu_s, pu_s]
        · rw [pu_n e, pu_n e]
          exact hag i (by omega) hh
      have hp' : ∀ g, g < 42 → pmg r t g → ∀ t', t' < n → ¬ r (1 + 9 * t') = 2 → pu p t g t' < 42 ∧ pmg r t' (pu p t g t') := fun g g1 g2 t' a b => by
        by_cases e : t' = t
        · subst e
          rw [pu_s]
          exact ⟨g1, g2⟩
        · rw [pu_n e]
          exact hp t' a b
      have hf' : ∀ g t', t + 1 ≤ t' → t' < n → ¬ r (1 + 9 * t') = 2 → fcd r t' (pu p t g t') := fun g t' a b c => by
        rw [pu_n (by omega)]
        exact hf t' (by omega) b c
      -- the codes behind g
      have H : ∀ (fuel c g : Nat) (A1 : AS) (σ1 : Mem) (o2 o4 : Option MV), c ≤ fuel → g + c = 41 → pmg r t g → MIv r n σs σ1 (pu p t g) A1 → A1.1 + c * wb r q (t + 1) < 2 ^ 30 → gfold (goF r n bm q t p0) c (g + 1) A1 = gfold (goF r n bm q t p0) 42 0 A → Ev S (d + 6) 162 91 [some (.inr (some 60)), some (.inl x1), o2, some (.inl (nI (pos r t))), o4] [] σ1 Q := by
        intro fuel
        induction fuel with
        | zero =>
          intro c g A1 σ1 o2 o4 hc hg hpm hM1 hB1 hfold
          have : c = 0 := by omega
          subst this
          have o67 := ((hM1.ow hO).2 t htn hs).1
          refine g_162_91 (br_f (nI_pos (by omega)) ⟨pos r t, rfl, by omega, ?_⟩)
          rw [o67]
          refine m_next (g := g) (by omega) hq9 er (by omega) hpm (SM_row (by omega) (by omega) hM1.1) (by rw [hM1.1, rowp_6 htn hs, pu_s]) (by rw [hM1.1, rowp_7 htn hs, pu_s]) (fun g' σ' y1 y2 y3 y4 y5 y6 y7 => by omega) (fun σ' y1 y2 => g_162_99 (br_f (not_not_intro rfl) ⟨pos r t, rfl, by omega, ?_⟩))
          rw [y2.1 67 (by decide), o67]
          refine bg (t := t) rfl (by omega) hq9 er ((SM_row (by omega) (by omega) hM1.1).fr (by omega) y2) (fun g'' σ'' z1 z2 z3 z4 z5 z6 => g_162_106 ?_) (fun σ'' z1 z2 => absurd hfc.2.1 (z1 _ hfc.1))
          have eg : g'' = p t := fcd_one ⟨z1, z2, z3⟩ hfc
          subst eg
          have hM2 := hM1.fr (g := p t) htn hs (y2.tr z4) z5 z6
          rw [pu_pu, pu_id] at hM2
          rw [m1_sub]
          refine h σ'' _ _ ?_
          rw [← hfold]
          exact hM2
        | succ fuel IH =>
          intro c g A1 σ1 o2 o4 hc hg hpm hM1 hB1 hfold
          have o67 := ((hM1.ow hO).2 t htn hs).1
          refine g_162_91 (br_f (nI_pos (by omega)) ⟨pos r t, rfl, by omega, ?_⟩)
          rw [o67]
          refine m_next (g := g) (by omega) hq9 er (by omega) hpm (SM_row (by omega) (by omega) hM1.1) (by rw [hM1.1, rowp_6 htn hs, pu_s]) (by rw [hM1.1, rowp_7 htn hs, pu_s]) (fun g' σ' y1 y2 y3 y4 y5 y6 y7 => g_162_99 (br_t (by decide) (br_f (nI_pos (by omega)) ?_))) (fun σ' y1 y2 => g_162_99 (br_f (not_not_intro rfl) ⟨pos r t, rfl, by omega, ?_⟩))
          · have hM2 := hM1.fr (g := g') htn hs y5 y6 y7
            rw [pu_pu] at hM2
            obtain ⟨c', hc'⟩ : ∃ c', g' + c' = 41 := ⟨41 - g', by omega⟩
            have hmul : (c' + 1) * wb r q (t + 1) ≤ c * wb r q (t + 1) := Nat.mul_le_mul_right _ (by omega)
            rw [Nat.succ_mul] at hmul
            refine Gm hx hR hO q (t + 1) (pu p t g') (pu p0 t g') A1 σ' _ _ (by omega) hM2 (hag' g') (hp' g' y2 y3) (hf' g') (by omega) (fun σ'' o2' o4' hM3 => ?_)
            rw [pos_n hs, show nI (pos r t + 1) - 1 = nI (pos r t) from nI_pred _]
            have hle := (goM_le (r := r) (n := n) (bm := bm) q (t + 1) (pu p0 t g') A1).2
            refine IH c' g' _ σ'' o2' o4' (by omega) hc' y3 hM3 (by omega) ?_
            rw [← hfold, ← goF_t (r := r) (n := n) (bm := bm) (q := q) (p := p0) (A := A1) y3]
            have := gfold_skip (F := goF r n bm q t p0) (g' - g - 1) (c' + 1) (g + 1) A1 (fun i i1 i2 X => goF_f (y4 i (by omega) (by omega)))
            rw [show g' - g - 1 + (c' + 1) = c by omega, show g + 1 + (g' - g - 1) = g' by omega] at this
            rw [this]
            rfl
          · rw [y2.1 67 (by decide), o67]
            refine bg (t := t) rfl (by omega) hq9 er ((SM_row (by omega) (by omega) hM1.1).fr (by omega) y2) (fun g'' σ'' z1 z2 z3 z4 z5 z6 => g_162_106 ?_) (fun σ'' z1 z2 => absurd hfc.2.1 (z1 _ hfc.1))
            have eg : g'' = p t := fcd_one ⟨z1, z2, z3⟩ hfc
            subst eg
            have hM2 := hM1.fr (g := p t) htn hs (y2.tr z4) z5 z6
            rw [pu_pu, pu_id] at hM2
            rw [m1_sub]
            refine h σ'' _ _ ?_
            rw [← hfold]
            have := gfold_skip (F := goF r n bm q t p0) c 0 (g + 1) A1 (fun i i1 i2 X => goF_f (y1 i (by omega) (by omega)))
            rw [Nat.add_zero] at this
            rw [this]
            exact hM2
      refine Gm hx hR hO q (t + 1) p (pu p0 t (p t)) A σ o3 o4 (by omega) hM (fun i hi hh => ?_) hp (fun t' a => hf t' (by omega)) (by omega) (fun σ' o2 o4 hM' => ?_)
      · have := hag' (p t) i hi hh
        rw [this, pu_id]
      · rw [pos_n hs, show nI (pos r t + 1) - 1 = nI (pos r t) from nI_pred _]
        have hle := (goM_le (r := r) (n := n) (bm := bm) q (t + 1) (pu p0 t (p t)) A).2
        have hmul : (41 - p t) * wb r q (t + 1) ≤ 41 * wb r q (t + 1) := Nat.mul_le_mul_right _ (by omega)
        refine H 41 (41 - p t) (p t) _ σ' o2 o4 (by omega) (by have := hfc.1; omega) hfc.2.1 (by rw [pu_id]; exact hM') (by omega) ?_
        rw [← goF_t (r := r) (n := n) (bm := bm) (q := q) (p := p0) (A := A) hfc.2.1]
        have hlt := hfc.1
        have := gfold_skip (F := goF r n bm q t p0) (p t) (41 - p t + 1) 0 A (fun i i1 i2 X => goF_f (hfc.2.2 i (by omega)))
        rw [show p t + (41 - p t + 1) = 42 by omega, Nat.zero_add] at this
        rw [this]
        rfl
end OV2
