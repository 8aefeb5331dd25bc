section STP
variable {S : Nat × (Nat → Int32)} {d n t g : Nat} {Q : MQ1} {r : Nat → Int32} {p : Nat → Nat} {L R : Nat → Nat} {σ : Mem}
theorem c60 (hf : ogf g < 6) (hL : ∀ w, w < 6 → σ 23 w = nI (L w)) (hRm : ∀ w, w < 6 → σ 22 w = nI (R w)) (hLR : ∀ w, w < 6 → L w ≤ R w) (h40 : ∀ w, w < 6 → R w ≤ 40) (hh : hr r t ≤ 9) (hne : g % 7 ≠ ogf g + 1) (h1 : (∀ w, w < 6 → L w + cP r t g w ≤ R w) → Q [.inl 1] σ) (h0 : ¬ (∀ w, w < 6 → L w + cP r t g w ≤ R w) → Q [.inl 0] σ) : Ec S d 60 [.inr (some 4), .inl (nI (hr r t)), .inl (nI (ogf g)), .inl (ogs g)] σ Q := by
  refine Ec_of rfl (g_60_0 ⟨ogf g, rfl, hf, ogf g, rfl, hf, ?_⟩)
  have a1 := hLR _ hf
  have a2 := h40 _ hf
  rw [hL _ hf, hRm _ hf, nI_add, nI_ltI (by omega) (by omega)]
  by_cases c : R (ogf g) < L (ogf g) + hr r t
  · refine br_t c (h0 (fun z => ?_))
    have := z _ hf
    unfold cP at this
    rw [if_pos rfl] at this
    omega
  · refine br_f c ?_
    rw [ogs_m1]
    by_cases c0 : g % 7 = 0
    · refine br_t c0 (h1 (fun w hw => ?_))
      unfold cP
      rw [if_neg (show ¬ g % 7 = w + 1 by omega)]
      by_cases e : ogf g = w
      · subst e
        rw [if_pos rfl]
        omega
      · rw [if_neg e]
        exact hLR w hw
    · obtain ⟨v, hv⟩ : ∃ v, g % 7 = v + 1 := ⟨g % 7 - 1, by omega⟩
      have hv6 : v < 6 := by omega
      have es := (ogs_nI (g := g) hv6).mpr hv
      have b1 := hLR _ hv6
      have b2 := h40 _ hv6
      refine br_f c0 ⟨v, es, hv6, v, es, hv6, ?_⟩
      rw [hL _ hv6, hRm _ hv6, nI_leI (by omega) (by omega)]
      by_cases c2 : R v ≤ L v
      · refine br_t c2 (h0 (fun z => ?_))
        have := z v hv6
        unfold cP at this
        rw [if_pos hv] at this
        omega
      · refine br_f c2 (h1 (fun w hw => ?_))
        unfold cP
        by_cases e : ogf g = w
        · subst e
          rw [if_pos rfl, if_neg hne]
          omega
        · rw [if_neg e]
          by_cases e2 : g % 7 = w + 1
          · have : w = v := by omega
            subst this
            rw [if_pos e2]
            omega
          · rw [if_neg e2]
            exact hLR w hw
def gr2 (L : Nat → Nat) (g : Nat) : Nat := if g % 7 = 0 then 0 else 1 * (2 * L (g % 7 - 1) + 1)
theorem gr_eq (h l : Nat) : nI h * ((2 * nI l) + nI h) = nI (h * (2 * l + h)) := by rw [ix2, nI_add, pk_mul]
theorem c58a {f h : Nat} (hf : f < 6) (hL : ∀ w, w < 6 → σ 23 w = nI (L w)) (hq : Q [.inl (nI (h * (2 * L f + h)))] σ) : Ec S d 58 [.inr (some 4), .inl (nI f), .inl (nI h)] σ Q := by
  refine Ec_of rfl (g_58_0 (br_t (nI_m1 (by omega)) ⟨f, rfl, hf, ?_⟩))
  rw [hL f hf, gr_eq]
  exact hq
theorem c58b (hL : ∀ w, w < 6 → σ 23 w = nI (L w)) (hq : Q [.inl (nI (gr2 L g))] σ) : Ec S d 58 [.inr (some 4), .inl (ogs g), .inl 1] σ Q := by
  unfold gr2 at hq
  by_cases c0 : g % 7 = 0
  · rw [if_pos c0] at hq
    exact Ec_of rfl (g_58_0 (br_f (not_not_intro (ogs_m1.mpr c0)) hq))
  · rw [if_neg c0] at hq
    have hv6 : g % 7 - 1 < 6 := by omega
    have es := (ogs_nI (g := g) hv6).mpr (by omega)
    refine Ec_of rfl (g_58_0 (br_t (fun z => c0 (ogs_m1.mp z)) ⟨g % 7 - 1, es, hv6, ?_⟩))
    rw [hL _ hv6, show (1 : Int32) = nI 1 from rfl, gr_eq]
    exact hq
theorem c59a {f : Nat} {z : Int32} (hf : f < 6) (h : ∀ σ' : Mem, (∀ a, a ≠ 23 → σ' a = σ a) → (∀ w, w < 6 → σ' 23 w = if f = w then σ 23 w + z else σ 23 w) → Q [] σ') : Ec S d 59 [.inr (some 4), .inl (nI f), .inl z] σ Q := by
  refine Ec_of rfl (g_59_0 (br_f (nI_m1 (by omega)) ⟨f, rfl, hf, f, rfl, hf, h _ (fun a ha => up_ne ha) (fun w hw => ?_)⟩))
  rw [up_at]
  by_cases e : w = f
  · rw [if_pos e, if_pos e.symm, e]
  · rw [if_neg e, if_neg (fun z => e z.symm)]
theorem c59b {z : Int32} (h : ∀ σ' : Mem, (∀ a, a ≠ 23 → σ' a = σ a) → (∀ w, w < 6 → σ' 23 w = if g % 7 = w + 1 then σ 23 w + z else σ 23 w) → Q [] σ') : Ec S d 59 [.inr (some 4), .inl (ogs g), .inl z] σ Q := by
  by_cases c0 : g % 7 = 0
  · exact Ec_of rfl (g_59_0 (br_t (ogs_m1.mpr c0) (h σ (fun _ _ => rfl) (fun w hw => by rw [if_neg (by omega)]))))
  · have hv6 : g % 7 - 1 < 6 := by omega
    have es := (ogs_nI (g := g) hv6).mpr (by omega)
    refine Ec_of rfl (g_59_0 (br_f (fun z => c0 (ogs_m1.mp z)) ⟨g % 7 - 1, es, hv6, g % 7 - 1, es, hv6, h _ (fun a ha => up_ne ha) (fun w hw => ?_)⟩))
    rw [up_at]
    by_cases e : w = g % 7 - 1
    · rw [if_pos e, if_pos (by omega), e]
    · rw [if_neg e, if_neg (by omega)]
theorem ind_X {X : Nat → Nat} {f : Nat} : ∀ m, f < m → sumN (fun w => if f = w then X w else 0) m = X f
  | 0, h => absurd h (Nat.not_lt_zero _)
  | m + 1, h => by
    show sumN _ m + (if f = m then X m else 0) = X f
    by_cases e : f = m
    · subst e
      rw [if_pos rfl, sum_0 f (fun w hw => if_neg (by omega)), Nat.zero_add]
    · rw [if_neg e, Nat.add_zero, ind_X m (by omega)]
theorem evP_grow (hs : ¬ r (1 + 9 * t) = 2) (hg : g < 42) (hne : g % 7 ≠ ogf g + 1) : evP r n (pu p t g) (t + 1) = evP r n p t + hr r t * (2 * ldP r n p t (ogf g) + hr r t) + gr2 (ldP r n p t) g := by
  have hf := ogf_lt hg
  have hw : ∀ w, ldP r n (pu p t g) (t + 1) w = ldP r n p t w + cP r t g w := fun w => by
    rw [ldP_n hs, pu_s, ldP_c (p := pu p t g) (p' := p) (fun i hi => pu_n (by omega))]
  have hpt : ∀ w, w < 6 → ldP r n (pu p t g) (t + 1) w * ldP r n (pu p t g) (t + 1) w = ldP r n p t w * ldP r n p t w + ((if ogf g = w then hr r t * (2 * ldP r n p t w + hr r t) else 0) + (if g % 7 = w + 1 then 1 * (2 * ldP r n p t w + 1) else 0)) := fun w _ => by
    rw [hw]
    generalize ldP r n p t w = l
    unfold cP
    have sq : ∀ a b : Nat, (a + b) * (a + b) = a * a + b * (2 * a + b) := fun a b => by
      rw [Nat.add_mul, Nat.mul_add, Nat.mul_add, Nat.mul_add, Nat.mul_comm a b, ← Nat.mul_assoc b 2 a, Nat.mul_comm b 2, Nat.mul_assoc 2 b a]
      omega
    by_cases e : ogf g = w
    · rw [if_pos e, if_neg (show ¬ g % 7 = w + 1 by omega), if_pos e, if_neg (show ¬ g % 7 = w + 1 by omega), Nat.add_zero, Nat.add_zero, sq]
    · rw [if_neg e, if_neg e]
      by_cases e2 : g % 7 = w + 1
      · rw [if_pos e2, if_pos e2, Nat.zero_add, Nat.zero_add, sq]
      · rw [if_neg e2, if_neg e2]
        simp
  unfold evP
  rw [sum_eq 6 hpt, sum_add, sum_add, ind_X (X := fun w => hr r t * (2 * ldP r n p t w + hr r t)) 6 hf]
  have : sumN (fun w => if g % 7 = w + 1 then 1 * (2 * ldP r n p t w + 1) else 0) 6 = gr2 (ldP r n p t) g := by
    unfold gr2
    by_cases c0 : g % 7 = 0
    · rw [if_pos c0]
      exact sum_0 6 (fun w hw => if_neg (by omega))
    · rw [if_neg c0]
      rw [sum_eq (g := fun w => if g % 7 - 1 = w then 1 * (2 * ldP r n p t w + 1) else 0) 6 (fun w hw => by
        by_cases e : g % 7 = w + 1
        · rw [if_pos e, if_pos (by omega)]
        · rw [if_neg e, if_neg (by omega)])]
      exact ind_X (X := fun w => 1 * (2 * ldP r n p t w + 1)) 6 (by omega)
  rw [this, Nat.add_assoc]
theorem CE_CL' : (CE r p t t (ogf g) ∧ CL r p t t (ogf g)) ↔ ∀ a, a < t → ¬ r (1 + 9 * a) = 2 → par r (pu p t g) a t := by
  have h1 : CE r p t t (ogf g) ↔ CE r (pu p t g) t t (ogf g) := ⟨fun z a ha hs => by rw [pu_n (by omega)]; exact z a ha hs, fun z a ha hs => by have := z a ha hs; rw [pu_n (by omega)] at this; exact this⟩
  have h2 : CL r p t t (ogf g) ↔ CL r (pu p t g) t t (ogf g) := ⟨fun z a ha hs => by rw [pu_n (by omega)]; exact z a ha hs, fun z a ha hs => by have := z a ha hs; rw [pu_n (by omega)] at this; exact this⟩
  rw [h1, h2]
  exact CE_CL (by rw [pu_s])
theorem VP_step (hs : ¬ r (1 + 9 * t) = 2) (hv : VP r n p t) (ho : opc r t g) : VP r n (pu p t g) (t + 1) ↔ (∀ a, a < t → ¬ r (1 + 9 * a) = 2 → par r (pu p t g) a t) ∧ ∀ w, w < 6 → ldP r n p t w + cP r t g w ≤ rmN r w := by
  have hw : ∀ w, ldP r n (pu p t g) (t + 1) w = ldP r n p t w + cP r t g w := fun w => by
    rw [ldP_n hs, pu_s, ldP_c (p := pu p t g) (p' := p) (fun i hi => pu_n (by omega))]
  refine ⟨fun z => ⟨fun a ha hsa => (z.1 t (by omega) hs).2 a ha hsa, fun w hw' => by rw [← hw]; exact z.2 w hw'⟩, fun z => ⟨fun b hb hsb => ?_, fun w hw' => by rw [hw]; exact z.2 w hw'⟩⟩
  by_cases e : b = t
  · subst e
    rw [pu_s]
    exact ⟨ho.2, z.1⟩
  · have hv' := VP_c (r := r) (n := n) (p := p) (p' := pu p t g) (t := t) (fun i hi => pu_lt i hi) hv
    exact hv'.1 b (by omega) hsb
theorem pm_ne (h : pmg r t g) : g % 7 ≠ ogf g + 1 := by
  intro z
  by_cases hz : r (1 + 9 * t + 3) = 0
  · have := ogs_m1.mp (h.2.1 hz)
    omega
  · obtain ⟨v, hv, e, -, hl, -⟩ := h.2.2 hz
    have := (ogs_nI hv).mp e
    omega
end STP
def RelC (r : Nat → Int32) (n : Nat) (aim : Int32) (σ : Mem) (A : AS) : Prop := (∃ c, σ 4 7 = nI c ∧ c ≤ A.1 ∧ (aim = 2 → c = A.1) ∧ (0 < A.1 → 0 < c)) ∧ (¬ aim = 1 → A.2.1 = 0) ∧ (¬ aim = 2 → 0 < A.1 → σ 4 9 = nI A.2.2.1 ∧ (aim = 1 → σ 4 8 = nI A.2.1) ∧ A.2.1 < 1000 ∧ A.2.2.1 < 1000000 ∧ ∀ t, t < n → ¬ r (1 + 9 * t) = 2 → A.2.2.2 t < 42 ∧ σ (6 + 4 * pos r t) 10 = nI (ogf (A.2.2.2 t)) ∧ σ (6 + 4 * pos r t) 11 = ogs (A.2.2.2 t))
def CI (r : Nat → Int32) (n : Nat) (aim : Int32) (σs σ : Mem) (p : Nat → Nat) (t : Nat) (A : AS) : Prop := (∀ a, a ≠ 4 → a ≠ 23 → ¬ (6 ≤ a ∧ a < 22) → σ a = σs a) ∧ (σ 4 5 = aim ∧ σ 4 6 = nI (pos r n)) ∧ (∀ t', t' < n → ¬ r (1 + 9 * t') = 2 → PDg r σ (pos r t') t' 42) ∧ (∀ t', t' < t → ¬ r (1 + 9 * t') = 2 → σ (6 + 4 * pos r t') 8 = nI (ogf (p t')) ∧ σ (6 + 4 * pos r t') 9 = ogs (p t')) ∧ (∀ w, w < 6 → σ 23 w = nI (ldP r n p t w)) ∧ (∀ w, w < 6 → σ 22 w = nI (rmN r w)) ∧ RelC r n aim σ A
def CB (aim : Int32) (bm : Bool) (A : AS) (mv ev : Nat) : Prop := aim = 2 ∨ A.1 = 0 ∨ btr A (if bm then mv else 0) ev
section STQ
variable {S : Nat × (Nat → Int32)} {d n t g : Nat} {Q : MQ1} {r : Nat → Int32} {p : Nat → Nat} {σ : Mem} {aim : Int32} {bm : Bool} {A : AS}
theorem c63 {mv ev : Nat} (hb : bm = true ↔ aim = 1) (ha : σ 4 5 = aim) (hA : RelC r n aim σ A) (hw : A.1 < 2 ^ 30) (hmv : mv < 1000) (hev : ev < 1000000) (h1 : CB aim bm A mv ev → Q [.inl 1] σ) (h0 : ¬ CB aim bm A mv ev → Q [.inl 0] σ) : Ec S d 63 [.inr (some 4), .inl (nI mv), .inl (nI ev)] σ Q := by
  obtain ⟨⟨c, c1, c2, c3, c4⟩, hm0, hbest⟩ := hA
  refine Ec_of rfl (g_63_0 ?_)
  rw [ha, c1]
  by_cases a2 : aim = 2
  · exact br_t a2 (h1 (Or.inl a2))
  · refine br_f a2 ?_
    by_cases hz : A.1 = 0
    · have : c = 0 := by omega
      subst this
      exact br_f (not_not_intro rfl) (h1 (Or.inr (Or.inl hz)))
    · have hc := c4 (by omega)
      refine br_t (nI_ne0 (by omega) (by omega)) ?_
      obtain ⟨b1, b2, b3, b4, b5⟩ := hbest a2 (by omega)
      have e9 : σ 4 9 ≤ nI ev ↔ A.2.2.1 ≤ ev := by rw [b1, nI_leI (by omega) (by omega)]
      have no : ∀ {P : Prop}, (btr A (if bm then mv else 0) ev → P) → CB aim bm A mv ev → P := fun k z => z.elim (fun y => absurd y a2) (fun y => y.elim (fun x => absurd x hz) k)
      by_cases a1 : aim = 1
      · have hbm := hb.mpr a1
        subst hbm
        have e8 : σ 4 8 = nI A.2.1 := b2 a1
        refine br_f (not_not_intro a1) ?_
        rw [e8, nI_inj (by omega) (by omega), nI_leI (by omega) (by omega), e9]
        by_cases d1 : mv = A.2.1
        · refine br_t d1 ?_
          by_cases d2 : A.2.2.1 ≤ ev
          · exact br_t d2 (h0 (no (fun z => by unfold btr at z; simp only [if_true] at z; omega)))
          · exact br_f d2 (h1 (Or.inr (Or.inr (Or.inr ⟨d1, by omega⟩))))
        · refine br_f d1 ?_
          by_cases d2 : A.2.1 ≤ mv
          · exact br_t d2 (h0 (no (fun z => by unfold btr at z; simp only [if_true] at z; omega)))
          · exact br_f d2 (h1 (Or.inr (Or.inr (Or.inl (by show mv < A.2.1; omega)))))
      · have hbm : bm = false := by
          cases hbm : bm with
          | false => rfl
          | true => exact absurd (hb.mp hbm) a1
        subst hbm
        have e0 := hm0 a1
        refine br_t a1 ?_
        rw [e9]
        by_cases d2 : A.2.2.1 ≤ ev
        · exact br_t d2 (h0 (no (fun z => by unfold btr at z; simp only [Bool.false_eq_true, if_false] at z; omega)))
        · exact br_f d2 (h1 (Or.inr (Or.inr (Or.inr ⟨e0.symm, by omega⟩))))
/-- only what is kept as best in the places has changed -/
def PO (σ σ' : Mem) : Prop := (∀ a, ¬ (6 ≤ a ∧ a < 22) → σ' a = σ a) ∧ ∀ k, k < 4 → (∀ j, j ≠ 10 → j ≠ 11 → σ' (6 + 4 * k) j = σ (6 + 4 * k) j) ∧ ∀ a, 7 + 4 * k ≤ a → a < 10 + 4 * k → σ' a = σ a
theorem kp_loop (h4 : pos r n ≤ 4) {o1 o2 : Option MV} : ∀ (q t : Nat) (σ : Mem), t + q = n → σ 4 6 = nI (pos r n) → (∀ σ' : Mem, PO σ σ' → (∀ t', t ≤ t' → t' < n → ¬ r (1 + 9 * t') = 2 → σ' (6 + 4 * pos r t') 10 = σ (6 + 4 * pos r t') 8 ∧ σ' (6 + 4 * pos r t') 11 = σ (6 + 4 * pos r t') 9) → (∀ k, k < pos r t → σ' (6 + 4 * k) = σ (6 + 4 * k)) → Q [] σ') → Ev S (d + 1) 64 18 [some (.inr (some 4)), o1, o2, some (.inl (nI (pos r t)))] [] σ Q
  | 0, t, σ, ht, h6, h => by
    have : t = n := by omega
    subst this
    refine g_64_18 ?_
    rw [h6]
    exact br_t (Int32.le_refl _) (h σ ⟨fun _ _ => rfl, fun _ _ => ⟨fun _ _ _ => rfl, fun _ _ _ => rfl⟩⟩ (fun t' a b => by omega) (fun _ _ => rfl))
  | q + 1, t, σ, ht, h6, h => by
    by_cases hs : r (1 + 9 * t) = 2
    · have ih := kp_loop h4 (o1 := o1) (o2 := o2) q (t + 1) σ (by omega) h6 (fun σ' a b c => h σ' a (fun t' x y z => b t' (by
        rcases Nat.lt_or_ge t t' with w | w
        · exact w
        · have : t' = t := by omega
          subst this
          exact absurd hs z) y z) (fun k hk => c k (by rw [pos_s hs]; exact hk)))
      rw [pos_s hs] at ih
      exact ih
    · have hpl := pos_lt (show t < n by omega) hs
      have hk : pos r t < 4 := by omega
      refine g_64_18 ?_
      rw [h6]
      refine br_f (nI_ge hpl (by omega)) ⟨pos r t, _, _, _, _, rfl, (isPl_at hk).2, (isPl_at hk).1, Ec_of rfl (g_44_0 (isPl_at hk).1 (g_64_27 ?_))⟩
      rw [nI_1, ← pos_n hs, up_off (j' := 9) (by decide)]
      refine kp_loop h4 q (t + 1) _ (by omega) (by rw [up_ne (by omega), up_ne (by omega)]; exact h6) (fun σ' a b c => h σ' ⟨fun x hx => by rw [a.1 x hx, up_ne (by omega), up_ne (by omega)], fun k hk' => ⟨fun j j1 j2 => ?_, fun x x1 x2 => by rw [(a.2 k hk').2 x x1 x2, up_ne (by omega), up_ne (by omega)]⟩⟩ (fun t' x y z => ?_) (fun k hk' => by rw [c k (by rw [pos_n hs]; omega), up_ne (by omega), up_ne (by omega)]))
      · rw [(a.2 k hk').1 j j1 j2]
        by_cases e : 6 + 4 * k = 6 + 4 * pos r t
        · rw [e, up_off j2, up_off j1]
        · rw [up_ne e, up_ne e]
      · by_cases e : t' = t
        · subst e
          rw [c (pos r t') (by rw [pos_n hs]; omega), up_self, up_off (by decide), up_self]
          exact ⟨rfl, rfl⟩
        · have hne : 6 + 4 * pos r t' ≠ 6 + 4 * pos r t := fun k => e (pos_inj z hs (by omega))
          obtain ⟨u1, u2⟩ := b t' (by omega) y z
          rw [up_ne hne, up_ne hne] at u1 u2
          exact ⟨u1, u2⟩
end STQ
