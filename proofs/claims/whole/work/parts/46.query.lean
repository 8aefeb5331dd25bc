theorem or0 (x : Int32) : x ||| 0 = x := by
  apply Int32.toBitVec_inj.mp
  rw [Int32.toBitVec_or]
  exact BitVec.or_zero
theorem ad0 (x : Int32) : x + 0 = x := Int32.add_zero x
/-! met -/
def mtF (r : Nat → Int32) : Nat → Nat → Int32 → Int32
  | 0, _, x => x
  | q + 1, t, x => mtF r q (t + 1) (if r (1 + 9 * t) = 2 ∨ ¬ r (1 + 9 * t + 6) = -1 then x ||| r (1 + 9 * t + 4) else x)
theorem neg_m1 {x : Int32} (h : isW x) : x < 0 ↔ x = -1 := by
  rcases h with rfl | ⟨w, hw, rfl⟩
  · exact ⟨fun _ => rfl, fun _ => by decide⟩
  · exact ⟨fun z => absurd z (nI_pos (by omega)), fun z => absurd z (nI_m1 (by omega))⟩
theorem cmt {S : Nat × (Nat → Int32)} {d n : Nat} {σ : Mem} {x1 : Int32} {Q : MQ1} (hR : RI (σ 61) n) (hC : CR (σ 2) (σ 61) n) : ∀ (q t : Nat) (x : Int32), t + q = n → ((x1 = 0 → Q [.inl (mtF (σ 61) q t x)] σ) ∧ (¬ x1 = 0 → Q [.inl (65535 &&& (mtF (σ 61) q t x ^^^ (-1)))] σ)) → Ev S (d + 2) 98 4 [some (.inr (some 0)), some (.inl x1), some (.inl x), some (.inl (nI t))] [] σ Q
  | 0, t, x, ht, h => by
    have : t = n := by omega
    subst this
    refine g_98_4 ?_
    rw [hC.1]
    exact br_t (Int32.le_refl _) h
  | q + 1, t, x, ht, h => by
    have hn8 := hR.1
    have hcf := cf hC (show t < n by omega)
    have e5 : σ 2 (8 * 5 + t) = σ 61 (1 + 9 * t + 6) := hcf.2.2.2.2.2.1
    have e4 : σ 2 (8 * 4 + t) = σ 61 (1 + 9 * t + 4) := hcf.2.2.2.2.1
    refine g_98_4 ?_
    rw [hC.1, nI_1]
    refine br_f (nI_ge (by omega) (by omega)) ⟨_, ix00 t, by omega, ?_⟩
    rw [hcf.1]
    by_cases h2 : σ 61 (1 + 9 * t) = 2
    · refine br_f (not_not_intro h2) ⟨_, ix8 4 t, by omega, ?_⟩
      rw [e4]
      refine cmt hR hC q (t + 1) _ (by omega) ?_
      unfold mtF at h
      rw [if_pos (Or.inl h2)] at h
      exact h
    · refine br_t h2 ⟨_, ix8 5 t, by omega, ?_⟩
      rw [e5]
      by_cases h3 : σ 61 (1 + 9 * t + 6) = -1
      · refine br_t h3 (cmt hR hC q (t + 1) _ (by omega) ?_)
        unfold mtF at h
        rw [if_neg (fun z => z.elim h2 (fun k => k h3))] at h
        exact h
      · refine br_f h3 ⟨_, ix8 4 t, by omega, ?_⟩
        rw [e4]
        refine cmt hR hC q (t + 1) _ (by omega) ?_
        unfold mtF at h
        rw [if_pos (Or.inr h3)] at h
        exact h
theorem mmt {S : Nat × (Nat → Int32)} {d n : Nat} {σ : Mem} {x1 : Int32} {Q : MQ1} (hR : RI (σ 61) n) : ∀ (q t : Nat) (x : Int32), t + q = n → ((x1 = 0 → Q [.inl (mtF (σ 61) q t x)] σ) ∧ (¬ x1 = 0 → Q [.inl (65535 &&& (mtF (σ 61) q t x ^^^ (-1)))] σ)) → Ev S (d + 3) 169 4 [some (.inr (some 60)), some (.inl x1), some (.inl x), some (.inl (nI t))] [] σ Q
  | 0, t, x, ht, h => by
    have : t = n := by omega
    subst this
    refine g_169_4 ?_
    rw [hR.2.1]
    exact br_t (Int32.le_refl _) h
  | q + 1, t, x, ht, h => by
    have hn8 := hR.1
    have hW := (hR.2.2.1 t (by omega)).2.2.2.2.2.2.1
    refine g_169_4 ?_
    rw [hR.2.1, nI_1, or0]
    refine br_f (nI_ge (by omega) (by omega)) ⟨_, ix90 t, by omega, ?_⟩
    by_cases h2 : σ 61 (1 + 9 * t) = 2
    · refine br_f (not_not_intro h2) ⟨_, ix9 t 4, by omega, mmt hR q (t + 1) _ (by omega) ?_⟩
      unfold mtF at h
      rw [if_pos (Or.inl h2)] at h
      exact h
    · refine br_t h2 ⟨_, ix9 t 6, by omega, ?_⟩
      rw [neg_m1 hW]
      by_cases h3 : σ 61 (1 + 9 * t + 6) = -1
      · refine br_t h3 (mmt hR q (t + 1) _ (by omega) ?_)
        unfold mtF at h
        rw [if_neg (fun z => z.elim h2 (fun k => k h3))] at h
        exact h
      · refine br_f h3 ⟨_, ix9 t 4, by omega, mmt hR q (t + 1) _ (by omega) ?_⟩
        unfold mtF at h
        rw [if_pos (Or.inr h3)] at h
        exact h
theorem L_met {S : Nat × (Nat → Int32)} {d : Nat} {σ : Mem} {x1 : Int32} (hG : GI σ) : LK S (d + 4) 98 (d + 4) 169 [.inl x1] σ := by
  have hG' := hG
  obtain ⟨⟨n, hR, hC⟩, -, -, -⟩ := hG'
  refine Ec_of rfl (g_98_0 (cmt hR hC n 0 0 (by omega) ⟨fun h => ?_, fun h => ?_⟩))
  · exact Ec_of rfl (g_169_0 (mmt hR n 0 0 (by omega) ⟨fun _ => fin_s hG, fun z => absurd h z⟩))
  · exact Ec_of rfl (g_169_0 (mmt hR n 0 0 (by omega) ⟨fun z => absurd z h, fun _ => fin_s hG⟩))
/-! only -/
def onM (r : Nat → Int32) (x1 : Int32) (t : Nat) : Prop := (r (1 + 9 * t) = 2 ∨ ¬ r (1 + 9 * t + 6) = -1) ∧ ((r (1 + 9 * t + 4) >>> (x1 &&& 31)) &&& 1) = 1
noncomputable def onV (r : Nat → Int32) (x1 : Int32) : Nat → Nat → Nat → Int32 → Option Int32
  | 0, _, c, y => if c = 1 then some y else none
  | q + 1, t, c, y => @ite _ (onM r x1 t) (Classical.propDecidable _) (onV r x1 q (t + 1) (c + 1) (nI t)) (onV r x1 q (t + 1) c y)
theorem onV_2 {r : Nat → Int32} {x1 : Int32} : ∀ (q t c : Nat) (y : Int32), 2 ≤ c → onV r x1 q t c y = none
  | 0, t, c, y, h => if_neg (by omega)
  | q + 1, t, c, y, h => by
    unfold onV
    split
    · exact onV_2 q _ _ _ (by omega)
    · exact onV_2 q _ _ _ h
theorem onV_t {r : Nat → Int32} {x1 : Int32} {q t c : Nat} {y : Int32} (h : onM r x1 t) : onV r x1 (q + 1) t c y = onV r x1 q (t + 1) (c + 1) (nI t) := if_pos h
theorem onV_f {r : Nat → Int32} {x1 : Int32} {q t c : Nat} {y : Int32} (h : ¬ onM r x1 t) : onV r x1 (q + 1) t c y = onV r x1 q (t + 1) c y := if_neg h
theorem st_ok4 {r : Nat → Int32} {n t k : Nat} (hR : RI r n) (ht : t < n) (hk : k < 16) : ((r (1 + 9 * t + 4) >>> (nI k &&& 31)) &&& 1) = 0 ↔ ¬ ((r (1 + 9 * t + 4) >>> (nI k &&& 31)) &&& 1) = 1 := by
  obtain ⟨q, hq, e⟩ := (hR.2.2.1 t ht).2.2.2.2.1
  rw [e, bit_0 (by omega) (by omega), bit_1 (by omega) (by omega)]
  cases q.testBit k <;> simp
theorem con {S : Nat × (Nat → Int32)} {d n k : Nat} {σ : Mem} {Q : MQ1} (hR : RI (σ 61) n) (hC : CR (σ 2) (σ 61) n) (hk : k < 16) : ∀ (q t c : Nat) (y : Int32), t + q = n → (c = 0 ∧ y = -1 ∨ c = 1 ∧ ¬ y = -1) → (∀ v, onV (σ 61) (nI k) q t c y = some v → Q [.inl v] σ) → (onV (σ 61) (nI k) q t c y = none → Q [.inl (-100006)] (up σ 0 5 ((σ 0 5) + 1))) → Ev S (d + 2) 99 13 [some (.inr (some 0)), some (.inl (nI k)), some (.inl y), some (.inl (nI t))] [] σ Q
  | 0, t, c, y, ht, hc, hs, hn => by
    have : t = n := by omega
    subst this
    refine g_99_13 ?_
    rw [hC.1]
    refine br_t (Int32.le_refl _) ?_
    rcases hc with ⟨rfl, rfl⟩ | ⟨rfl, h1⟩
    · exact br_f (not_not_intro rfl) (hn rfl)
    · exact br_t h1 (hs y rfl)
  | q + 1, t, c, y, ht, hc, hs, hn => by
    have hn8 := hR.1
    have hcf := cf hC (show t < n by omega)
    have e5 : σ 2 (8 * 5 + t) = σ 61 (1 + 9 * t + 6) := hcf.2.2.2.2.2.1
    have e4 : σ 2 (8 * 4 + t) = σ 61 (1 + 9 * t + 4) := hcf.2.2.2.2.1
    have b4' := st_ok4 hR (show t < n by omega) hk
    have no : ¬ onM (σ 61) (nI k) t → Ev S (d + 2) 99 13 [some (.inr (some 0)), some (.inl (nI k)), some (.inl y), some (.inl (nI (t + 1)))] [] σ Q := fun z => by
      rw [onV_f z] at hs hn
      exact con hR hC hk q (t + 1) c y (by omega) hc hs hn
    have yes : onM (σ 61) (nI k) t → ((y = -1 → Ev S (d + 2) 99 13 [some (.inr (some 0)), some (.inl (nI k)), some (.inl (nI t)), some (.inl (nI (t + 1)))] [] σ Q) ∧ (¬ y = -1 → Q [.inl (-100006)] (up σ 0 5 ((σ 0 5) + 1)))) := fun z => by
      rw [onV_t z] at hs hn
      rcases hc with ⟨rfl, h1⟩ | ⟨rfl, h1⟩
      · exact br_t h1 (con hR hC hk q (t + 1) 1 (nI t) (by omega) (Or.inr ⟨rfl, nI_m1 (by omega)⟩) hs hn)
      · exact br_f h1 (hn (onV_2 _ _ _ _ (by omega)))
    refine g_99_13 ?_
    rw [hC.1, nI_1]
    refine br_f (nI_ge (by omega) (by omega)) ⟨_, ix00 t, by omega, ?_⟩
    rw [hcf.1]
    by_cases h2 : σ 61 (1 + 9 * t) = 2
    · refine br_f (not_not_intro h2) ⟨_, ix8 4 t, by omega, ?_⟩
      rw [e4, b4']
      exact ⟨fun z => no (fun y => z y.2), fun z => yes ⟨Or.inl h2, Decidable.not_not.mp z⟩⟩
    · refine br_t h2 ⟨_, ix8 5 t, by omega, ?_⟩
      rw [e5]
      by_cases h3 : σ 61 (1 + 9 * t + 6) = -1
      · exact br_t h3 (no (fun z => z.1.elim h2 (fun k => k h3)))
      · refine br_f h3 ⟨_, ix8 4 t, by omega, ?_⟩
        rw [e4, b4']
        exact ⟨fun z => no (fun y => z y.2), fun z => yes ⟨Or.inr h3, Decidable.not_not.mp z⟩⟩
theorem mon {S : Nat × (Nat → Int32)} {d n k : Nat} {σ : Mem} {Q : MQ1} (hR : RI (σ 61) n) (hk : k < 16) : ∀ (q t c : Nat) (y : Int32), t + q = n → c ≤ t → (∀ v, onV (σ 61) (nI k) q t c y = some v → Q [.inl v] σ) → (onV (σ 61) (nI k) q t c y = none → Q [.inl (-100006)] (up σ 60 6 ((σ 60 6) + 1))) → Ev S (d + 3) 170 15 [some (.inr (some 60)), some (.inl (nI k)), some (.inl y), some (.inl (nI c)), some (.inl (nI t))] [] σ Q
  | 0, t, c, y, ht, hc, hs, hn => by
    have hn8 := hR.1
    have : t = n := by omega
    subst this
    refine g_170_15 ?_
    rw [hR.2.1]
    refine br_t (Int32.le_refl _) ?_
    by_cases h1 : c = 1
    · subst h1
      exact br_f (not_not_intro rfl) (hs y rfl)
    · exact br_t (fun z => h1 ((nI_inj (b := 1) (by omega) (by decide)).mp z)) (hn (if_neg h1))
  | q + 1, t, c, y, ht, hc, hs, hn => by
    have hn8 := hR.1
    have hW := (hR.2.2.1 t (by omega)).2.2.2.2.2.2.1
    have no : ¬ onM (σ 61) (nI k) t → Ev S (d + 3) 170 15 [some (.inr (some 60)), some (.inl (nI k)), some (.inl y), some (.inl (nI c)), some (.inl (nI (t + 1)))] [] σ Q := fun z => by
      rw [onV_f z] at hs hn
      exact mon hR hk q (t + 1) c y (by omega) (by omega) hs hn
    have yes : onM (σ 61) (nI k) t → Ev S (d + 3) 170 15 [some (.inr (some 60)), some (.inl (nI k)), some (.inl (nI t)), some (.inl (nI (c + 1))), some (.inl (nI (t + 1)))] [] σ Q := fun z => by
      rw [onV_t z] at hs hn
      exact mon hR hk q (t + 1) (c + 1) (nI t) (by omega) (by omega) hs hn
    refine g_170_15 ?_
    rw [hR.2.1, nI_1, nI_1]
    refine br_f (nI_ge (by omega) (by omega)) ⟨_, ix90 t, by omega, ?_⟩
    by_cases h2 : σ 61 (1 + 9 * t) = 2
    · exact br_f (not_not_intro h2) ⟨_, ix9 t 4, by omega, fun z => no (fun y => z y.2), fun z => yes ⟨Or.inl h2, Decidable.not_not.mp z⟩⟩
    · refine br_t h2 ⟨_, ix9 t 6, by omega, ?_⟩
      rw [neg_m1 hW]
      by_cases h3 : σ 61 (1 + 9 * t + 6) = -1
      · exact br_t h3 (no (fun z => z.1.elim h2 (fun k => k h3)))
      · exact br_f h3 ⟨_, ix9 t 4, by omega, fun z => no (fun y => z y.2), fun z => yes ⟨Or.inr h3, Decidable.not_not.mp z⟩⟩
theorem L_only {S : Nat × (Nat → Int32)} {d : Nat} {σ : Mem} {x1 : Int32} (hG : GI σ) : LK S (d + 4) 99 (d + 4) 170 [.inl x1] σ := by
  have hG' := hG
  obtain ⟨⟨n, hR, hC⟩, -, -, -⟩ := hG'
  refine Ec_of rfl (g_99_0 ?_)
  rcases lec x1 (n := 15) (by decide) with c | ⟨c0, c1, c2⟩ | ⟨k, hk, rfl, c0, c1, c2⟩
  · exact br_t c (Ec_of rfl (g_170_0 (br_t c (fin_f hG))))
  · exact br_f c0 (br_f c2 (Ec_of rfl (g_170_0 (br_f c0 (br_t c1 (fin_f hG))))))
  · refine br_f c0 (br_t c1 (con hR hC (by omega) n 0 0 (-1) (by omega) (Or.inl ⟨rfl, rfl⟩) (fun v hv => ?_) (fun hv => ?_)))
    · refine Ec_of rfl (g_170_0 (br_f c0 (br_f c2 (mon hR (by omega) n 0 0 (-1) (by omega) (by omega) (fun v' hv' => ?_) (fun hv' => ?_)))))
      · rw [hv] at hv'
        cases hv'
        exact fin_s hG
      · rw [hv] at hv'
        cases hv'
    · have e61 : up σ 0 5 (σ 0 5 + 1) 61 = σ 61 := e61f
      refine Ec_of rfl (g_170_0 (br_f c0 (br_f c2 (mon (n := n) (by rw [e61]; exact hR) (by omega) n 0 0 (-1) (by omega) (by omega) (fun v' hv' => ?_) (fun hv' => fin_f hG)))))
      rw [e61, hv] at hv'
      cases hv'
/-! due, drift -/
def dcN (r : Nat → Int32) (t j : Nat) : Nat := if r (1 + 9 * t) = 2 then (if r (79 + j) = 1 then 0 else 1) else (if r (1 + 9 * t + 6) = nI j then hr r t else 0) + (if r (1 + 9 * t + 7) = nI j then 1 else 0)
theorem sum_eq {f g : Nat → Nat} : ∀ n, (∀ t, t < n → f t = g t) → sumN f n = sumN g n
  | 0, _ => rfl
  | n + 1, h => by
    show sumN f n + f n = sumN g n + g n
    rw [sum_eq n (fun t ht => h t (by omega)), h n (by omega)]
theorem sum_add {f g : Nat → Nat} : ∀ n, sumN (fun t => f t + g t) n = sumN f n + sumN g n
  | 0 => rfl
  | n + 1 => by
    show sumN (fun t => f t + g t) n + (f n + g n) = (sumN f n + f n) + (sumN g n + g n)
    rw [sum_add n]
    omega
theorem sum_0 {f : Nat → Nat} : ∀ n, (∀ t, t < n → f t = 0) → sumN f n = 0
  | 0, _ => rfl
  | n + 1, h => by
    show sumN f n + f n = 0
    rw [sum_0 n (fun t ht => h t (by omega)), h n (by omega)]
theorem ind_m1 {a : Nat} (n : Nat) (hn : n ≤ 6) : sumN (fun j => if (-1 : Int32) = nI j then a else 0) n = 0 := sum_0 n (fun t ht => if_neg (fun z => nI_m1 (by omega) z.symm))
theorem ind_f {a f : Nat} (hf : f < 6) : ∀ n, n ≤ 6 → sumN (fun j => if nI f = nI j then a else 0) n = if f < n then a else 0
  | 0, _ => rfl
  | n + 1, hn => by
    show sumN _ n + (if nI f = nI n then a else 0) = _
    rw [ind_f hf n (by omega)]
    by_cases h : f = n
    · subst h
      rw [if_neg (by omega), if_pos rfl, if_pos (by omega)]
      omega
    · rw [if_neg (fun z => h (one_f hf (by omega) z))]
      by_cases h2 : f < n
      · rw [if_pos h2, if_pos (by omega), Nat.add_zero]
      · rw [if_neg h2, if_neg (by omega)]
theorem cop {S : Nat × (Nat → Int32)} {d n w : Nat} {σ : Mem} {Q : MQ1} (hC : CR (σ 2) (σ 61) n) (hw : w < 6) (h : Q [.inl (nI (sumN (fun j => if σ 61 (79 + j) = 1 then 0 else 1) (w + 1)))] σ) : ∀ (q k : Nat), k + q = w + 1 → Ev S (d + 2) 21 4 [some (.inr (some 1)), some (.inl (nI w)), some (.inl (nI (sumN (fun j => if σ 61 (79 + j) = 1 then 0 else 1) k))), some (.inl (nI k))] [] σ Q
  | 0, k, hk => by
    have : k = w + 1 := by omega
    subst this
    exact g_21_4 (br_t (nI_lt (by omega) (by omega)) h)
  | q + 1, k, hk => by
    have ih := cop (S := S) (d := d) hC hw h q (k + 1) (by omega)
    refine g_21_4 (br_f (nI_nlt (by omega) (by omega)) ?_)
    rw [snC hC (show k < 6 by omega), nI_1, nI_1, ad0]
    have e : sumN (fun j => if σ 61 (79 + j) = 1 then 0 else 1) (k + 1) = sumN (fun j => if σ 61 (79 + j) = 1 then 0 else 1) k + (if σ 61 (79 + k) = 1 then 0 else 1) := rfl
    rw [e] at ih
    by_cases hs : σ 61 (79 + k) = 1
    · rw [if_pos hs] at ih
      exact br_f (not_not_intro hs) ih
    · rw [if_neg hs] at ih
      exact br_t hs ih
theorem c_due {S : Nat × (Nat → Int32)} {d n t w : Nat} {σ : Mem} {Q : MQ1} (hR : RI (σ 61) n) (hC : CR (σ 2) (σ 61) n) (ht : t < n) (hw : w < 6) (h : Q [.inl (nI (sumN (dcN (σ 61) t) (w + 1)))] σ) : Ec S (d + 3) 116 [.inr (some 0), .inl (nI t), .inl (nI w)] σ Q := by
  have hn8 := hR.1
  have hcf := cf hC ht
  have hT := hR.2.2.1 t ht
  refine Ec_of rfl (g_116_0 ⟨_, ix00 t, by omega, ?_⟩)
  rw [hcf.1]
  by_cases h2 : σ 61 (1 + 9 * t) = 2
  · refine br_f (not_not_intro h2) (Ec_of rfl (g_21_0 (cop hC hw (g_116_9 ?_) (w + 1) 0 (by omega))))
    rw [sum_eq (g := fun j => if σ 61 (79 + j) = 1 then 0 else 1) (w + 1) (fun j _ => by unfold dcN; rw [if_pos h2])] at h
    exact h
  · have e5 : σ 2 (8 * 5 + t) = σ 61 (1 + 9 * t + 6) := hcf.2.2.2.2.2.1
    have e6 : σ 2 (8 * 6 + t) = σ 61 (1 + 9 * t + 7) := hcf.2.2.2.2.2.2.1
    have e1 : σ 2 (8 * 1 + t) = nI (hr (σ 61) t) := hcf.2.1.trans (hr_ok hR ht).1
    refine br_t h2 ⟨_, ix8 5 t, by omega, _, ix8 6 t, by omega, ?_⟩
    have hs : sumN (dcN (σ 61) t) (w + 1) = sumN (fun j => if σ 61 (1 + 9 * t + 6) = nI j then hr (σ 61) t else 0) (w + 1) + sumN (fun j => if σ 61 (1 + 9 * t + 7) = nI j then 1 else 0) (w + 1) := by
      rw [← sum_add]
      exact sum_eq (w + 1) (fun j _ => by unfold dcN; rw [if_neg h2])
    rw [hs] at h
    rw [e5, e6]
    have s2 : ∀ a : Nat, Q [.inl (nI (a + sumN (fun j => if σ 61 (1 + 9 * t + 7) = nI j then 1 else 0) (w + 1)))] σ → (σ 61 (1 + 9 * t + 7) = -1 → Q [.inl (nI a)] σ) ∧ (¬ σ 61 (1 + 9 * t + 7) = -1 → (nI w < σ 61 (1 + 9 * t + 7) → Q [.inl (nI a)] σ) ∧ (¬ nI w < σ 61 (1 + 9 * t + 7) → Q [.inl (nI a + 1)] σ)) := by
      intro a ha
      rcases hT.2.2.2.2.2.2.2.1 with e7 | ⟨v, hv, e7⟩
      · rw [e7, ind_m1 (w + 1) (by omega)] at ha
        exact br_t e7 ha
      · rw [e7, ind_f hv (w + 1) (by omega)] at ha
        rw [e7, nI_1]
        refine br_f (nI_m1 (by omega)) ?_
        by_cases hl : v < w + 1
        · rw [if_pos hl] at ha
          exact br_f (nI_nlt (by omega) (by omega)) ha
        · rw [if_neg hl] at ha
          exact br_t (nI_lt (by omega) (by omega)) ha
    rcases hT.2.2.2.2.2.2.1 with e6' | ⟨v, hv, e6'⟩
    · rw [e6', ind_m1 (w + 1) (by omega)] at h
      exact br_t e6' (s2 0 h)
    · rw [e6', ind_f hv (w + 1) (by omega)] at h
      rw [e6']
      refine br_f (nI_m1 (by omega)) ?_
      by_cases hl : v < w + 1
      · rw [if_pos hl] at h
        refine br_f (nI_nlt (by omega) (by omega)) ⟨_, ix8 1 t, by omega, ?_⟩
        rw [e1]
        exact s2 _ h
      · rw [if_neg hl] at h
        exact br_t (nI_lt (by omega) (by omega)) (s2 0 h)
theorem mdu {S : Nat × (Nat → Int32)} {d n t w : Nat} {σ : Mem} {Q : MQ1} (hR : RI (σ 61) n) (ht : t < n) (hw : w < 6) (h : Q [.inl (nI (sumN (dcN (σ 61) t) (w + 1)))] σ) : ∀ (q k : Nat), k + q = w + 1 → Ev S (d + 2) 172 4 [some (.inr (some 60)), some (.inl (nI t)), some (.inl (nI w)), some (.inl (nI (sumN (dcN (σ 61) t) k))), some (.inl (nI k))] [] σ Q
  | 0, k, hk => by
    have : k = w + 1 := by omega
    subst this
    exact g_172_4 (br_t (nI_lt (by omega) (by omega)) h)
  | q + 1, k, hk => by
    have hn8 := hR.1
    have ih := mdu (S := S) (d := d) hR ht hw h q (k + 1) (by omega)
    have e : ∀ v, dcN (σ 61) t k = v → sumN (dcN (σ 61) t) (k + 1) = sumN (dcN (σ 61) t) k + v := fun v hv => by
      show sumN (dcN (σ 61) t) k + dcN (σ 61) t k = _
      rw [hv]
    refine g_172_4 (br_f (nI_nlt (by omega) (by omega)) ⟨_, ix90 t, by omega, ?_⟩)
    rw [nI_1, ad0, ad0]
    by_cases h2 : σ 61 (1 + 9 * t) = 2
    · refine br_f (not_not_intro h2) ⟨_, ixp 79 k, by omega, ?_⟩
      rw [nI_1]
      by_cases hs : σ 61 (79 + k) = 1
      · rw [e 0 (by unfold dcN; rw [if_pos h2, if_pos hs])] at ih
        exact br_f (not_not_intro hs) ih
      · rw [e 1 (by unfold dcN; rw [if_pos h2, if_neg hs])] at ih
        exact br_t hs ih
    · refine br_t h2 ⟨_, ix9 t 6, by omega, ?_⟩
      by_cases h6 : σ 61 (1 + 9 * t + 6) = nI k
      · refine br_f (not_not_intro h6) ⟨_, ix9 t 1, by omega, _, ix9 t 7, by omega, ?_⟩
        rw [(hr_ok hR ht).1, nI_add, ad0, nI_1]
        by_cases h7 : σ 61 (1 + 9 * t + 7) = nI k
        · rw [e (hr (σ 61) t + 1) (by unfold dcN; rw [if_neg h2, if_pos h6, if_pos h7])] at ih
          exact br_f (not_not_intro h7) ih
        · rw [e (hr (σ 61) t) (by unfold dcN; rw [if_neg h2, if_pos h6, if_neg h7]; rfl)] at ih
          exact br_t h7 ih
      · refine br_t h6 ⟨_, ix9 t 7, by omega, ?_⟩
        rw [nI_1]
        by_cases h7 : σ 61 (1 + 9 * t + 7) = nI k
        · rw [e 1 (by unfold dcN; rw [if_neg h2, if_neg h6, if_pos h7])] at ih
          exact br_f (not_not_intro h7) ih
        · rw [e 0 (by unfold dcN; rw [if_neg h2, if_neg h6, if_neg h7])] at ih
          exact br_t h7 ih
theorem m_due {S : Nat × (Nat → Int32)} {d n t w : Nat} {σ : Mem} {Q : MQ1} (hR : RI (σ 61) n) (ht : t < n) (hw : w < 6) (h : Q [.inl (nI (sumN (dcN (σ 61) t) (w + 1)))] σ) : Ec S (d + 2) 172 [.inr (some 60), .inl (nI t), .inl (nI w)] σ Q := Ec_of rfl (g_172_0 (mdu hR ht hw h (w + 1) 0 (by omega)))
theorem L_due {S : Nat × (Nat → Int32)} {d : Nat} {σ : Mem} {x1 x2 : Int32} (hG : GI σ) : LK S (d + 4) 101 (d + 4) 173 [.inl x1, .inl x2] σ := by
  have hG' := hG
  obtain ⟨⟨n, hR, hC⟩, -, -, -⟩ := hG'
  have hn8 := hR.1
  refine Ec_of rfl (g_101_0 ?_)
  rw [hC.1]
  rcases ixc x1 (n := n) (by omega) with c | ⟨c0, c1, c2⟩ | ⟨t, ht, rfl, c0, c1, c2⟩
  · exact br_t c (Ec_of rfl (g_173_0 (br_t c (fin_f hG))))
  · exact br_f c0 (br_f c2 (Ec_of rfl (g_173_0 (br_f c0 (br_t (by rw [e61f, hR.2.1]; exact c1) (fin_f hG))))))
  have m1 : ¬ up σ 0 5 (σ 0 5 + 1) 61 0 ≤ nI t := by rw [e61f, hR.2.1]; exact c2
  refine br_f c0 (br_t c1 ?_)
  rcases ixc x2 (n := 6) (by decide) with b | ⟨b0, b1, b2⟩ | ⟨w, hw, rfl, b0, b1, b2⟩
  · exact br_t b (Ec_of rfl (g_173_0 (br_f c0 (br_f m1 (br_t b (fin_f hG))))))
  · exact br_f b0 (br_f b2 (Ec_of rfl (g_173_0 (br_f c0 (br_f m1 (br_f b0 (br_t (Int32.lt_of_lt_of_le (by decide) b1) (fin_f hG))))))))
  · have b5 : ¬ (5 : Int32) < nI w := nI_nlt (a := 5) (by omega) (by decide)
    exact br_f b0 (br_t b1 (c_due hR hC ht hw (g_101_15 (Ec_of rfl (g_173_0 (br_f c0 (br_f (by rw [hR.2.1]; exact c2) (br_f b0 (br_f b5 (m_due hR ht hw (g_173_11 (fin_s hG))))))))))))
def drF (r : Nat → Int32) (w : Nat) : Nat → Nat → Int32 → Int32
  | 0, _, x => x
  | q + 1, t, x => drF r w q (t + 1) (x + (if 0 < nI (sumN (dcN r t) (w + 1)) - r (1 + 9 * t + 8) then nI (sumN (dcN r t) (w + 1)) - r (1 + 9 * t + 8) else 0))
theorem cdr {S : Nat × (Nat → Int32)} {d n w : Nat} {σ : Mem} {Q : MQ1} (hR : RI (σ 61) n) (hC : CR (σ 2) (σ 61) n) (hw : w < 6) : ∀ (q t : Nat) (x : Int32), t + q = n → Q [.inl (drF (σ 61) w q t x)] σ → Ev S (d + 4) 102 11 [some (.inr (some 0)), some (.inl (nI w)), some (.inl x), some (.inl (nI t))] [] σ Q
  | 0, t, x, ht, h => by
    have : t = n := by omega
    subst this
    refine g_102_11 ?_
    rw [hC.1]
    exact br_t (Int32.le_refl _) h
  | q + 1, t, x, ht, h => by
    have hn8 := hR.1
    refine g_102_11 ?_
    rw [hC.1]
    refine br_f (nI_ge (by omega) (by omega)) (c_due hR hC (by omega) hw (g_102_22 ⟨_, ix8 7 t, by omega, ?_⟩))
    rw [show σ 2 (8 * 7 + t) = σ 61 (1 + 9 * t + 8) from (cf hC (show t < n by omega)).2.2.2.2.2.2.2.1, nI_1]
    exact cdr hR hC hw q (t + 1) _ (by omega) h
theorem mdr {S : Nat × (Nat → Int32)} {d n w : Nat} {σ : Mem} {Q : MQ1} (hR : RI (σ 61) n) (hw : w < 6) : ∀ (q t : Nat) (x : Int32) (o4 : Option MV), t + q = n → Q [.inl (drF (σ 61) w q t x)] σ → Ev S (d + 3) 174 11 [some (.inr (some 60)), some (.inl (nI w)), some (.inl x), some (.inl (nI t)), o4] [] σ Q
  | 0, t, x, o4, ht, h => by
    have : t = n := by omega
    subst this
    refine g_174_11 ?_
    rw [hR.2.1]
    exact br_t (Int32.le_refl _) h
  | q + 1, t, x, o4, ht, h => by
    have hn8 := hR.1
    refine g_174_11 ?_
    rw [hR.2.1]
    refine br_f (nI_ge (by omega) (by omega)) (m_due hR (by omega) hw (g_174_21 ⟨_, ix9 t 8, by omega, ?_⟩))
    rw [nI_1]
    unfold drF at h
    by_cases hl : nI (sumN (dcN (σ 61) t) (w + 1)) - σ 61 (1 + 9 * t + 8) ≤ 0
    · rw [if_neg (Int32.not_lt.mpr hl)] at h
      exact br_t hl (mdr hR hw q (t + 1) _ _ (by omega) h)
    · rw [if_pos (Int32.not_le.mp hl)] at h
      exact br_f hl (mdr hR hw q (t + 1) _ _ (by omega) h)
theorem L_drift {S : Nat × (Nat → Int32)} {d : Nat} {σ : Mem} {x1 : Int32} (hG : GI σ) : LK S (d + 4) 102 (d + 4) 174 [.inl x1] σ := by
  have hG' := hG
  obtain ⟨⟨n, hR, hC⟩, -, -, -⟩ := hG'
  refine Ec_of rfl (g_102_0 ?_)
  rcases ixc x1 (n := 6) (by decide) with c | ⟨c0, c1, c2⟩ | ⟨w, hw, rfl, c0, c1, c2⟩
  · exact br_t c (Ec_of rfl (g_174_0 (br_t c (fin_f hG))))
  · exact br_f c0 (br_f c2 (Ec_of rfl (g_174_0 (br_f c0 (br_t (Int32.lt_of_lt_of_le (by decide) c1) (fin_f hG))))))
  · have c5 : ¬ (5 : Int32) < nI w := nI_nlt (a := 5) (by omega) (by decide)
    exact br_f c0 (br_t c1 (cdr hR hC hw n 0 0 (by omega) (Ec_of rfl (g_174_0 (br_f c0 (br_f c5 (mdr hR hw n 0 0 _ (by omega) (fin_s hG))))))))
