section SML
variable {S : Nat × (Nat → Int32)} {d n t k : Nat} {Q : MQ1} {r : Nat → Int32} {p : Nat → Nat}
theorem and_b {x : Int32} (h : x = 0 ∨ x = 1) : x &&& 1 = x ∧ x &&& 0 = 0 := by
  rcases h with rfl | rfl <;> decide
theorem sl_loop (hR : RI r n) : ∀ (q w : Nat) (σ : Mem) (x : Int32), w + q = 6 → σ 61 = r → CR (σ 2) r n → ((x = 1 ∧ ∀ w', w' < w → ldP r n p 0 w' ≤ rmN r w') ∨ (x = 0 ∧ ¬ ∀ w', w' < 6 → ldP r n p 0 w' ≤ rmN r w')) → (∀ w', w' < w → σ 22 w' = nI (rmN r w') ∧ σ 23 w' = nI (ldP r n p 0 w')) → (∀ σ' : Mem, (∀ a, a ≠ 22 → a ≠ 23 → σ' a = σ a) → (∀ w', w' < 6 → σ' 22 w' = nI (rmN r w') ∧ σ' 23 w' = nI (ldP r n p 0 w')) → ((∀ w', w' < 6 → ldP r n p 0 w' ≤ rmN r w') → Q [.inl 1] σ') ∧ ((¬ ∀ w', w' < 6 → ldP r n p 0 w' ≤ rmN r w') → Q [.inl 0] σ')) → Ev S (d + 3) 54 4 [some (.inr (some 4)), some (.inl x), some (.inl (nI w))] [] σ Q
  | 0, w, σ, x, hw, h61, hC, hx, hl, h => by
    have : w = 6 := by omega
    subst this
    have hh := h σ (fun _ _ _ => rfl) hl
    rcases hx with ⟨rfl, a⟩ | ⟨rfl, a⟩
    · exact g_54_4 (br_t (by decide) ⟨Or.inr rfl, hh.1 a⟩)
    · exact g_54_4 (br_t (by decide) ⟨Or.inl rfl, hh.2 a⟩)
  | q + 1, w, σ, x, hw, h61, hC, hx, hl, h => by
    have hw6 : w < 6 := by omega
    obtain ⟨erm, hrm⟩ := rm_ok hR hw6
    have hx01 : x = 0 ∨ x = 1 := by rcases hx with ⟨a, -⟩ | ⟨a, -⟩ <;> simp [a]
    have hld : ldP r n p 0 w ≤ 8 := by
      have : sumN (cS r w) n ≤ 1 * n := sumN_le n (fun t ht => by
        unfold cS stn
        split
        · omega
        · split <;> omega)
      have hn8 := hR.1
      show sumN (cS r w) n + 0 ≤ 8
      omega
    have e2 : σ 2 (72 + w) = nI (rmN r w) := (hC.2.2.1 w hw6).trans erm
    -- the end of a round
    have tail : ∀ v : Int32, v = nI (ldP r n p 0 w) → (∃ j5 : Nat, nI w = nI j5 ∧ j5 < 6 ∧ (∃ j6 : Nat, nI w = nI j6 ∧ j6 < 6 ∧ ((((up (up σ 22 w (nI (rmN r w))) 23 w v) 22 j6) < ((up (up σ 22 w (nI (rmN r w))) 23 w v) 23 j5) → Ev S (d + 3) 54 4 [some (.inr (some 4)), some (.inl (x &&& 0)), some (.inl (nI w + 1))] [] (up (up σ 22 w (nI (rmN r w))) 23 w v) Q) ∧ (¬ (((up (up σ 22 w (nI (rmN r w))) 23 w v) 22 j6) < ((up (up σ 22 w (nI (rmN r w))) 23 w v) 23 j5)) → Ev S (d + 3) 54 4 [some (.inr (some 4)), some (.inl (x &&& 1)), some (.inl (nI w + 1))] [] (up (up σ 22 w (nI (rmN r w))) 23 w v) Q)))) := by
      intro v hv
      subst hv
      refine ⟨w, rfl, hw6, w, rfl, hw6, ?_⟩
      rw [up_ne (a' := 22) (a := 23) (by decide), up_self, up_self, nI_ltI (by omega) (by omega), (and_b hx01).1, (and_b hx01).2, nI_1]
      have nxt : ∀ y : Int32, ((y = 1 ∧ ∀ w', w' < w + 1 → ldP r n p 0 w' ≤ rmN r w') ∨ (y = 0 ∧ ¬ ∀ w', w' < 6 → ldP r n p 0 w' ≤ rmN r w')) → Ev S (d + 3) 54 4 [some (.inr (some 4)), some (.inl y), some (.inl (nI (w + 1)))] [] (up (up σ 22 w (nI (rmN r w))) 23 w (nI (ldP r n p 0 w))) Q := by
        intro y hy
        refine sl_loop hR q (w + 1) _ y (by omega) (by rw [up_ne (by decide), up_ne (by decide)]; exact h61) (by rw [up_ne (by decide), up_ne (by decide)]; exact hC) hy (fun w' hw' => ?_) (fun σ' a b => h σ' (fun x x1 x2 => by rw [a x x1 x2, up_ne x2, up_ne x1]) b)
        rw [up_ne (a' := 22) (a := 23) (by decide), up_at, up_at, up_ne (by decide)]
        by_cases e : w' = w
        · subst e
          rw [if_pos rfl, if_pos rfl]
          exact ⟨rfl, rfl⟩
        · rw [if_neg e, if_neg e]
          exact hl w' (by omega)
      by_cases hc : rmN r w < ldP r n p 0 w
      · exact br_t hc (nxt 0 (Or.inr ⟨rfl, fun z => by have := z w hw6; omega⟩))
      · refine br_f hc (nxt x ?_)
        rcases hx with ⟨a, b⟩ | b
        · refine Or.inl ⟨a, fun w' hw' => ?_⟩
          by_cases e : w' = w
          · subst e
            omega
          · exact b w' (by omega)
        · exact Or.inr b
    refine g_54_4 (br_f (nI_ge (b := 6) (by omega) (by decide)) ⟨_, ixp 72 w, by omega, w, rfl, hw6, ?_⟩)
    rw [e2, up_ne (a' := 2) (by decide), snC hC hw6]
    by_cases hs : r (79 + w) = 1
    · exact br_f (not_not_intro hs) ⟨w, rfl, hw6, tail 0 (by
        have : ldP r n p 0 w = 0 := by
          show sumN (cS r w) n + 0 = 0
          rw [cS_0 hs n]
        rw [this]
        rfl)⟩
    · have t61 : up σ 22 w (nI (rmN r w)) 61 = r := by rw [up_ne (by decide)]; exact h61
      refine br_t hs (c_strands (n := n) (by rw [t61]; exact hR) (by rw [t61, up_ne (by decide)]; exact hC) (g_31_10 (g_54_22 ⟨w, rfl, hw6, tail _ ?_⟩)))
      rw [t61]
      congr 1
      show sumN (stn r) n = sumN (cS r w) n + 0
      rw [cS_1 hs n]
      rfl
theorem se_loop {σ : Mem} {L : Nat → Nat} (hl : ∀ w, w < 6 → σ 23 w = nI (L w)) (h : Q [.inl (nI (sumN (fun w => L w * L w) 6))] σ) : ∀ (q w : Nat), w + q = 6 → Ev S d 55 4 [some (.inr (some 4)), some (.inl (nI (sumN (fun w => L w * L w) w))), some (.inl (nI w))] [] σ Q
  | 0, w, hw => by
    have : w = 6 := by omega
    subst this
    exact g_55_4 (br_t (by decide) h)
  | q + 1, w, hw => by
    refine g_55_4 (br_f (nI_ge (b := 6) (by omega) (by decide)) ⟨w, rfl, by omega, w, rfl, by omega, ?_⟩)
    rw [hl w (by omega), pk_mul, nI_add, nI_1]
    exact se_loop hl h q (w + 1) (by omega)
theorem c41 {σ : Mem} {k k' N t' : Nat} (hk : k < 4) (hk' : k' < 4) (hN : N < 256) (ht : t' < 8) (e6 : σ (6 + 4 * k) 6 = nI N) (e4 : σ (6 + 4 * k') 4 = nI t') (h1 : N.testBit t' = true → Q [.inl 1] σ) (h0 : ¬ N.testBit t' = true → Q [.inl 0] σ) : Ec S d 41 [.inr (some (6 + 4 * k)), .inr (some (6 + 4 * k'))] σ Q := by
  refine Ec_of rfl (g_41_0 (isPl_at hk).1 (isPl_at hk').1 ?_)
  rw [e6, e4, bit_0 (by omega) (by omega)]
  cases hb : N.testBit t' with
  | true => exact br_f (by decide) (h1 hb)
  | false => exact br_t rfl (h0 (by rw [hb]; decide))
theorem c42 {σ : Mem} {k k' : Nat} (hk : k < 4) (hk' : k' < 4) (h1 : (σ (6 + 4 * k) 7 = σ (6 + 4 * k') 4 ∨ σ (6 + 4 * k') 7 = σ (6 + 4 * k) 4) → Q [.inl 1] σ) (h0 : ¬ (σ (6 + 4 * k) 7 = σ (6 + 4 * k') 4 ∨ σ (6 + 4 * k') 7 = σ (6 + 4 * k) 4) → Q [.inl 0] σ) : Ec S d 42 [.inr (some (6 + 4 * k)), .inr (some (6 + 4 * k'))] σ Q := by
  refine Ec_of rfl (g_42_0 (isPl_at hk).1 (isPl_at hk').1 ?_)
  by_cases a : σ (6 + 4 * k) 7 = σ (6 + 4 * k') 4
  · exact br_t a (h1 (Or.inl a))
  · refine br_f a ?_
    by_cases b : σ (6 + 4 * k') 7 = σ (6 + 4 * k) 4
    · exact br_f (not_not_intro b) (h1 (Or.inr b))
    · exact br_t b (h0 (fun z => z.elim a b))
theorem sx_toInt {a : Nat} (h : a < 1000) : (sx a).toInt = (a : Int) - 1 := by
  unfold sx
  split
  · rename_i e
    subst e
    rfl
  · rw [nI_toInt (by omega)]
    omega
theorem sx_lt {a b : Nat} (ha : a < 1000) (hb : b < 1000) : sx a < sx b ↔ a < b := by
  rw [Int32.lt_iff_toInt_lt, sx_toInt ha, sx_toInt hb]
  omega
theorem sx_nI (a : Nat) : nI a = sx (a + 1) := by
  unfold sx
  rw [if_neg (by omega)]
  rfl
theorem sx_m (a : Nat) : nI a - 1 = sx a := by
  unfold sx
  split
  · rename_i e
    subst e
    decide
  · rename_i e
    obtain ⟨b, rfl⟩ : ∃ b, a = b + 1 := ⟨a - 1, by omega⟩
    exact nI_pred b
theorem sx_min {a b : Nat} (ha : a < 1000) (hb : b < 1000) : (if sx a < sx b then sx a else sx b) = sx (min a b) := by
  by_cases h : a < b
  · rw [if_pos ((sx_lt ha hb).mpr h), Nat.min_eq_left (by omega)]
  · rw [if_neg (fun z => h ((sx_lt ha hb).mp z)), Nat.min_eq_right (by omega)]
theorem nI_max {a b : Nat} (ha : a < 1000) (hb : b < 1000) : (if nI b < nI a then nI a else nI b) = nI (max b a) := by
  by_cases h : b < a
  · rw [if_pos (nI_lt h (by omega)), Nat.max_eq_right (by omega)]
  · rw [if_neg (nI_nlt (by omega) (by omega)), Nat.max_eq_left (by omega)]
def bs (r : Nat → Int32) (t t' : Nat) : Prop := r (1 + 9 * t + 5) = nI t' ∨ r (1 + 9 * t' + 5) = nI t
def CE (r : Nat → Int32) (p : Nat → Nat) (t t' f : Nat) : Prop := ∀ a, a < t' → ¬ r (1 + 9 * a) = 2 → ((nd r t).testBit a = true → ogf (p a) + 1 ≤ f) ∧ (bs r t a → ogf (p a) ≤ f)
def CL (r : Nat → Int32) (p : Nat → Nat) (t t' f : Nat) : Prop := ∀ a, a < t' → ¬ r (1 + 9 * a) = 2 → ((nd r a).testBit t = true → f < ogf (p a)) ∧ (bs r t a → f ≤ ogf (p a))
theorem ef_loop {σ : Mem} (hR : RI r n) (h4 : pos r n ≤ 4) (ht : t < n) (hs : ¬ r (1 + 9 * t) = 2) (hP : ∀ t', t' < n → ¬ r (1 + 9 * t') = 2 → PDg r σ (pos r t') t' 42) (hpl : ∀ t', t' < t → ¬ r (1 + 9 * t') = 2 → p t' < 42 ∧ σ (6 + 4 * pos r t') 8 = nI (ogf (p t'))) (h : ∀ e, e ≤ 6 → (∀ f, e ≤ f ↔ CE r p t t f) → Q [.inl (nI e)] σ) : ∀ (q t' e : Nat) (o5 : Option MV), t' + q = t → e ≤ 6 → (∀ f, e ≤ f ↔ CE r p t t' f) → Ev S (d + 1) 61 9 [some (.inr (some 4)), some (.inl (nI (pos r t))), some (.inr (some (6 + 4 * pos r t))), some (.inl (nI e)), some (.inl (nI (pos r t'))), o5] [] σ Q
  | 0, t', e, o5, hq, he, hE => by
    have : t' = t := by omega
    subst this
    have hk := pos_lt ht hs
    exact g_61_9 (isPl_at (by omega)).1 (br_t (Int32.le_refl _) (h e he hE))
  | q + 1, t', e, o5, hq, he, hE => by
    have hn8 := hR.1
    have hk := pos_lt ht hs
    by_cases hs' : r (1 + 9 * t') = 2
    · have ih := ef_loop hR h4 ht hs hP hpl h q (t' + 1) e o5 (by omega) he (fun f => by
        rw [hE f]
        refine ⟨fun z a ha hsa => z a ?_ hsa, fun z a ha hsa => z a (by omega) hsa⟩
        rcases Nat.lt_or_ge a t' with w | w
        · exact w
        · have : a = t' := by omega
          subst this
          exact absurd hs' hsa)
      rw [pos_s hs'] at ih
      exact ih
    · have hk' := pos_lt (show t' < t by omega) hs'
      obtain ⟨-, p4, -, p6, p7, -⟩ := hP t ht hs
      obtain ⟨-, p4', -, p6', p7', -⟩ := hP t' (by omega) hs'
      obtain ⟨hlt, e8⟩ := hpl t' (by omega) hs'
      have hf := ogf_lt hlt
      have hN := lt256 hn8 (nd_ok hR ht).2
      -- what goes on with the new earliest week
      have nxt : ∀ (e' : Nat) (o : Option MV), e' ≤ 6 → (∀ f, e' ≤ f ↔ e ≤ f ∧ (((nd r t).testBit t' = true → ogf (p t') + 1 ≤ f) ∧ (bs r t t' → ogf (p t') ≤ f))) → Ev S (d + 1) 61 9 [some (.inr (some 4)), some (.inl (nI (pos r t))), some (.inr (some (6 + 4 * pos r t))), some (.inl (nI e')), some (.inl (nI (pos r t') + 1)), o] [] σ Q := by
        intro e' o he' hE'
        rw [nI_1, ← pos_n hs']
        refine ef_loop hR h4 ht hs hP hpl h q (t' + 1) e' o (by omega) he' (fun f => ?_)
        rw [hE' f, hE f]
        refine ⟨fun z a ha hsa => ?_, fun z => ⟨fun a ha hsa => z a (by omega) hsa, z t' (by omega) hs'⟩⟩
        by_cases e : a = t'
        · subst e
          exact z.2
        · exact z.1 a (by omega) hsa
      have bes' : ∀ (e1 : Nat), e1 ≤ 6 → (∀ f, e1 ≤ f ↔ e ≤ f ∧ ((nd r t).testBit t' = true → ogf (p t') + 1 ≤ f)) → Ec S d 42 [.inr (some (6 + 4 * pos r t)), .inr (some (6 + 4 * pos r t'))] σ (fun rv σ' => Ev S (d + 1) 61 31 [some (.inr (some 4)), some (.inl (nI (pos r t))), some (.inr (some (6 + 4 * pos r t))), some (.inl (nI e1)), some (.inl (nI (pos r t'))), some (.inr (some (6 + 4 * pos r t')))] (rv ++ []) σ' Q) := by
        intro e1 he1 hE1
        refine c42 (by omega) (by omega) (fun z => g_61_31 (isPl_at (by omega)).1 (isPl_at (by omega)).1 (br_f (by decide) ?_)) (fun z => g_61_31 (isPl_at (by omega)).1 (isPl_at (by omega)).1 (br_t rfl (nxt e1 _ he1 (fun f => ?_))))
        · rw [p7, p4', p7', p4] at z
          rw [e8, nI_max (by omega) (by omega)]
          refine nxt _ _ (by omega) (fun f => ?_)
          have hz : bs r t t' := z
          rw [Nat.max_le, hE1 f]
          exact ⟨fun y => ⟨y.1.1, y.1.2, fun _ => y.2⟩, fun y => ⟨⟨y.1, y.2.1⟩, y.2.2 hz⟩⟩
        · rw [p7, p4', p7', p4] at z
          rw [hE1 f]
          exact ⟨fun y => ⟨y.1, y.2, fun k => absurd k z⟩, fun y => ⟨y.1, y.2.1⟩⟩
      refine g_61_9 (isPl_at (by omega)).1 (br_f (nI_ge hk' (by omega)) ⟨pos r t', _, _, _, _, rfl, (isPl_at (by omega)).2, (isPl_at (by omega)).1, c41 (by omega) (by omega) hN (by omega) p6 p4' (fun z => g_61_20 (isPl_at (by omega)).1 (isPl_at (by omega)).1 (br_f (by decide) ?_)) (fun z => g_61_20 (isPl_at (by omega)).1 (isPl_at (by omega)).1 (br_t rfl (bes' e he (fun f => ⟨fun y => ⟨y, fun k => absurd k z⟩, fun y => y.1⟩))))⟩)
      rw [e8, nI_1, nI_max (by omega) (by omega)]
      refine bes' _ (by omega) (fun f => ?_)
      rw [Nat.max_le]
      exact ⟨fun y => ⟨y.1, fun _ => y.2⟩, fun y => ⟨y.1, y.2 z⟩⟩
theorem lf_loop {σ : Mem} (hR : RI r n) (h4 : pos r n ≤ 4) (ht : t < n) (hs : ¬ r (1 + 9 * t) = 2) (hP : ∀ t', t' < n → ¬ r (1 + 9 * t') = 2 → PDg r σ (pos r t') t' 42) (hpl : ∀ t', t' < t → ¬ r (1 + 9 * t') = 2 → p t' < 42 ∧ σ (6 + 4 * pos r t') 8 = nI (ogf (p t'))) (h : ∀ e, e ≤ 6 → (∀ f, f < e ↔ f < 6 ∧ CL r p t t f) → Q [.inl (sx e)] σ) : ∀ (q t' e : Nat) (o5 : Option MV), t' + q = t → e ≤ 6 → (∀ f, f < e ↔ f < 6 ∧ CL r p t t' f) → Ev S (d + 1) 62 9 [some (.inr (some 4)), some (.inl (nI (pos r t))), some (.inr (some (6 + 4 * pos r t))), some (.inl (sx e)), some (.inl (nI (pos r t'))), o5] [] σ Q
  | 0, t', e, o5, hq, he, hE => by
    have : t' = t := by omega
    subst this
    have hk := pos_lt ht hs
    exact g_62_9 (isPl_at (by omega)).1 (br_t (Int32.le_refl _) (h e he hE))
  | q + 1, t', e, o5, hq, he, hE => by
    have hn8 := hR.1
    have hk := pos_lt ht hs
    by_cases hs' : r (1 + 9 * t') = 2
    · have ih := lf_loop hR h4 ht hs hP hpl h q (t' + 1) e o5 (by omega) he (fun f => by
        rw [hE f]
        refine ⟨fun z => ⟨z.1, fun a ha hsa => z.2 a ?_ hsa⟩, fun z => ⟨z.1, fun a ha hsa => z.2 a (by omega) hsa⟩⟩
        rcases Nat.lt_or_ge a t' with w | w
        · exact w
        · have : a = t' := by omega
          subst this
          exact absurd hs' hsa)
      rw [pos_s hs'] at ih
      exact ih
    · have hk' := pos_lt (show t' < t by omega) hs'
      obtain ⟨-, p4, -, p6, p7, -⟩ := hP t ht hs
      obtain ⟨-, p4', -, p6', p7', -⟩ := hP t' (by omega) hs'
      obtain ⟨hlt, e8⟩ := hpl t' (by omega) hs'
      have hf := ogf_lt hlt
      have hN := lt256 hn8 (nd_ok hR (show t' < n by omega)).2
      have nxt : ∀ (e' : Nat) (o : Option MV), e' ≤ 6 → (∀ f, f < e' ↔ f < e ∧ (((nd r t').testBit t = true → f < ogf (p t')) ∧ (bs r t t' → f ≤ ogf (p t')))) → Ev S (d + 1) 62 9 [some (.inr (some 4)), some (.inl (nI (pos r t))), some (.inr (some (6 + 4 * pos r t))), some (.inl (sx e')), some (.inl (nI (pos r t') + 1)), o] [] σ Q := by
        intro e' o he' hE'
        rw [nI_1, ← pos_n hs']
        refine lf_loop hR h4 ht hs hP hpl h q (t' + 1) e' o (by omega) he' (fun f => ?_)
        rw [hE' f, hE f]
        refine ⟨fun z => ⟨z.1.1, fun a ha hsa => ?_⟩, fun z => ⟨⟨z.1, fun a ha hsa => z.2 a (by omega) hsa⟩, z.2 t' (by omega) hs'⟩⟩
        by_cases e : a = t'
        · subst e
          exact z.2
        · exact z.1.2 a (by omega) hsa
      have bes' : ∀ (e1 : Nat), e1 ≤ 6 → (∀ f, f < e1 ↔ f < e ∧ ((nd r t').testBit t = true → f < ogf (p t'))) → Ec S d 42 [.inr (some (6 + 4 * pos r t)), .inr (some (6 + 4 * pos r t'))] σ (fun rv σ' => Ev S (d + 1) 62 31 [some (.inr (some 4)), some (.inl (nI (pos r t))), some (.inr (some (6 + 4 * pos r t))), some (.inl (sx e1)), some (.inl (nI (pos r t'))), some (.inr (some (6 + 4 * pos r t')))] (rv ++ []) σ' Q) := by
        intro e1 he1 hE1
        refine c42 (by omega) (by omega) (fun z => g_62_31 (isPl_at (by omega)).1 (isPl_at (by omega)).1 (br_f (by decide) ?_)) (fun z => g_62_31 (isPl_at (by omega)).1 (isPl_at (by omega)).1 (br_t rfl (nxt e1 _ he1 (fun f => ?_))))
        · rw [p7, p4', p7', p4] at z
          rw [e8, sx_nI (ogf (p t')), sx_min (by omega) (by omega)]
          refine nxt _ _ (by omega) (fun f => ?_)
          have hz : bs r t t' := z
          rw [Nat.lt_min, hE1 f]
          exact ⟨fun y => ⟨y.2.1, y.2.2, fun _ => by omega⟩, fun y => ⟨by have := y.2.2 hz; omega, y.1, y.2.1⟩⟩
        · rw [p7, p4', p7', p4] at z
          rw [hE1 f]
          exact ⟨fun y => ⟨y.1, y.2, fun k => absurd k z⟩, fun y => ⟨y.1, y.2.1⟩⟩
      refine g_62_9 (isPl_at (by omega)).1 (br_f (nI_ge hk' (by omega)) ⟨pos r t', _, _, _, _, rfl, (isPl_at (by omega)).2, (isPl_at (by omega)).1, c41 (by omega) (by omega) hN (by omega) p6' p4 (fun z => g_62_20 (isPl_at (by omega)).1 (isPl_at (by omega)).1 (br_f (by decide) ?_)) (fun z => g_62_20 (isPl_at (by omega)).1 (isPl_at (by omega)).1 (br_t rfl (bes' e he (fun f => ⟨fun y => ⟨y, fun k => absurd k z⟩, fun y => y.1⟩))))⟩)
      rw [e8, sx_m, sx_min (by omega) (by omega)]
      refine bes' _ (by omega) (fun f => ?_)
      rw [Nat.lt_min]
      exact ⟨fun y => ⟨y.2, fun _ => y.1⟩, fun y => ⟨y.2 z, y.1⟩⟩
theorem CE_CL {f : Nat} (hf : f = ogf (p t)) : (CE r p t t f ∧ CL r p t t f) ↔ ∀ a, a < t → ¬ r (1 + 9 * a) = 2 → par r p a t := by
  subst hf
  refine ⟨fun z a ha hs => ?_, fun z => ⟨fun a ha hs => ?_, fun a ha hs => ?_⟩⟩
  · have h1 := z.1 a ha hs
    have h2 := z.2 a ha hs
    exact ⟨fun k => h1.1 k, fun k => h2.1 k, fun k => Nat.le_antisymm (h1.2 k) (h2.2 k)⟩
  · have := z a ha hs
    exact ⟨fun k => this.1 k, fun k => Nat.le_of_eq (this.2.2 k)⟩
  · have := z a ha hs
    exact ⟨fun k => this.2.1 k, fun k => Nat.le_of_eq (this.2.2 k).symm⟩
end SML
