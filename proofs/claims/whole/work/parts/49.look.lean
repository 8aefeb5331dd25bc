def OW (r : Nat → Int32) (n : Nat) (σ : Mem) : Prop := σ 60 9 = nI (pos r n) ∧ ∀ t, t < n → ¬ r (1 + 9 * t) = 2 → σ 67 (pos r t) = nI t ∧ σ 68 (2 * pos r t) = r (1 + 9 * t + 6) ∧ σ 68 (2 * pos r t + 1) = r (1 + 9 * t + 7)
def RelM (r : Nat → Int32) (n : Nat) (σ : Mem) (A : AS) : Prop := σ 60 12 = nI A.1 ∧ (0 < A.1 → σ 60 13 = nI A.2.1 ∧ σ 60 14 = nI A.2.2.1 ∧ A.2.1 < 1000 ∧ A.2.2.1 < 1000000 ∧ ∀ t, t < n → ¬ r (1 + 9 * t) = 2 → A.2.2.2 t < 42 ∧ σ 69 (2 * pos r t) = nI (ogf (A.2.2.2 t)) ∧ σ 69 (2 * pos r t + 1) = ogs (A.2.2.2 t))
theorem ix2 (k : Nat) : 2 * nI k = nI (2 * k) := by rw [show (2 : Int32) = nI 2 from rfl, pk_mul]
theorem ix21 (k : Nat) : 2 * nI k + 1 = nI (2 * k + 1) := by rw [ix2, nI_1]
section LOOK
variable {S : Nat × (Nat → Int32)} {d n : Nat} {σ : Mem} {Q : MQ1} {r : Nat → Int32} {p : Nat → Nat}
theorem mv_loop (hn8 : n ≤ 8) (hO : OW r n σ) (h61 : σ 61 = rowp r n p) (h : Q [.inl (nI (mvP r p n))] σ) : ∀ (q t : Nat), t + q = n → Ev S (d + 1) 160 4 [some (.inr (some 60)), some (.inl (nI (mvP r p t))), some (.inl (nI (pos r t)))] [] σ Q
  | 0, t, ht => by
    have : t = n := by omega
    subst this
    refine g_160_4 ?_
    rw [hO.1]
    exact br_t (Int32.le_refl _) h
  | q + 1, t, ht => by
    have ih := mv_loop hn8 hO h61 h q (t + 1) (by omega)
    by_cases hs : r (1 + 9 * t) = 2
    · rw [pos_s hs, mvP_s hs] at ih
      exact ih
    · obtain ⟨o1, o2, o3⟩ := hO.2 t (by omega) hs
      have hpl := pos_lt (show t < n by omega) hs
      have hpn := pos_id (r := r) n
      rw [pos_n hs, mvP_n hs] at ih
      unfold mv1 at ih
      refine g_160_4 ?_
      rw [hO.1]
      refine br_f (nI_ge hpl (by omega)) ⟨pos r t, rfl, by omega, 1 + 9 * t + 6, by rw [o1]; exact ix9 t 6, by omega, _, ix2 _, by omega, ?_⟩
      rw [o2, h61, rowp_6 (by omega) hs]
      have h7 : ∀ (y : Int32) (x : Nat), y = nI x → Ev S (d + 1) 160 4 [some (.inr (some 60)), some (.inl (nI (x + (if ogs (p t) = r (1 + 9 * t + 7) then 0 else 1)))), some (.inl (nI (pos r t + 1)))] [] σ Q → (∃ j4 : Nat, nI (pos r t) = nI j4 ∧ j4 < 8 ∧ (∃ j5 : Nat, (1 + (9 * (σ 67 j4))) + 7 = nI j5 ∧ j5 < 86 ∧ (∃ j6 : Nat, (2 * nI (pos r t)) + 1 = nI j6 ∧ j6 < 16 ∧ ((rowp r n p j5 = (σ 68 j6) → Ev S (d + 1) 160 4 [some (.inr (some 60)), some (.inl (y + 0)), some (.inl (nI (pos r t) + 1))] [] σ Q) ∧ (¬ (rowp r n p j5 = (σ 68 j6)) → Ev S (d + 1) 160 4 [some (.inr (some 60)), some (.inl (y + 1)), some (.inl (nI (pos r t) + 1))] [] σ Q))))) := by
        intro y x hy hx
        subst hy
        refine ⟨pos r t, rfl, by omega, 1 + 9 * t + 7, by rw [o1]; exact ix9 t 7, by omega, _, ix21 _, by omega, ?_⟩
        rw [o3, rowp_7 (by omega) hs, nI_1, nI_1, ad0]
        by_cases e : ogs (p t) = r (1 + 9 * t + 7)
        · rw [if_pos e] at hx
          exact br_t e hx
        · rw [if_neg e] at hx
          exact br_f e hx
      by_cases e : nI (ogf (p t)) = r (1 + 9 * t + 6)
      · rw [if_pos e, Nat.zero_add] at ih
        exact br_t e (h7 _ _ (ad0 _) ih)
      · rw [if_neg e, ← Nat.add_assoc] at ih
        exact br_f e (h7 _ _ (nI_1 _) ih)
theorem st_loop (hn8 : n ≤ 8) {o1 o2 o3 : Option MV} : ∀ (q t : Nat) (σ : Mem), t + q = n → OW r n σ → σ 61 = rowp r n p → (∀ σ' : Mem, (∀ a, a ≠ 69 → σ' a = σ a) → (∀ t', t ≤ t' → t' < n → ¬ r (1 + 9 * t') = 2 → σ' 69 (2 * pos r t') = nI (ogf (p t')) ∧ σ' 69 (2 * pos r t' + 1) = ogs (p t')) → (∀ j, j < 2 * pos r t → σ' 69 j = σ 69 j) → Q [] (up σ' 60 12 (σ' 60 12 + 1))) → Ev S (d + 4) 161 37 [some (.inr (some 60)), o1, o2, o3, some (.inl (nI (pos r t)))] [] σ Q
  | 0, t, σ, ht, hO, h61, h => by
    have : t = n := by omega
    subst this
    refine g_161_37 ?_
    rw [hO.1]
    exact br_t (Int32.le_refl _) (h σ (fun _ _ => rfl) (fun t' a b => by omega) (fun _ _ => rfl))
  | q + 1, t, σ, ht, hO, h61, h => by
    by_cases hs : r (1 + 9 * t) = 2
    · have ih := st_loop hn8 (o1 := o1) (o2 := o2) (o3 := o3) q (t + 1) σ (by omega) hO h61 (fun σ' a b c => h σ' a (fun t' x y z => b t' (by
        rcases Nat.lt_or_ge t t' with w | w
        · exact w
        · have : t' = t := by omega
          subst this
          exact absurd hs z) y z) (fun j hj => c j (by rw [pos_s hs]; exact hj)))
      rw [pos_s hs] at ih
      exact ih
    · obtain ⟨o1', o2', o3'⟩ := hO.2 t (by omega) hs
      have hpl := pos_lt (show t < n by omega) hs
      have hpn := pos_id (r := r) n
      refine g_161_37 ?_
      rw [hO.1]
      refine br_f (nI_ge hpl (by omega)) ⟨pos r t, rfl, by omega, 1 + 9 * t + 6, by rw [o1']; exact ix9 t 6, by omega, _, ix2 _, by omega, pos r t, rfl, by omega, 1 + 9 * t + 7, by rw [up_ne (by decide), o1']; exact ix9 t 7, by omega, _, ix21 _, by omega, ?_⟩
      rw [up_ne (a' := 61) (by decide), h61, rowp_6 (by omega) hs, rowp_7 (by omega) hs, nI_1, ← pos_n hs]
      have hO' : OW r n (up (up σ 69 (2 * pos r t) (nI (ogf (p t)))) 69 (2 * pos r t + 1) (ogs (p t))) := by
        unfold OW
        rw [up_ne (by decide), up_ne (by decide), up_ne (by decide), up_ne (by decide), up_ne (by decide), up_ne (by decide)]
        exact hO
      refine st_loop hn8 q (t + 1) _ (by omega) hO' (by rw [up_ne (by decide), up_ne (by decide)]; exact h61) (fun σ' a b c => h σ' (fun x hx => by rw [a x hx, up_ne hx, up_ne hx]) (fun t' x y z => ?_) (fun j hj => ?_))
      · by_cases e : t' = t
        · subst e
          rw [c _ (by rw [pos_n hs]; omega), c _ (by rw [pos_n hs]; omega), up_self, up_off (by omega), up_self]
          exact ⟨rfl, rfl⟩
        · exact b t' (by omega) y z
      · rw [c j (by rw [pos_n hs]; omega), up_off (by omega), up_off (by omega)]
theorem mvP_lt (h : n ≤ 8) : mvP r p n ≤ 16 := by
  have := sumN_le (f := fun t' => if r (1 + 9 * t') = 2 then 0 else mv1 r t' (p t')) (b := 2) n (fun t _ => by
    split
    · omega
    · unfold mv1
      split <;> split <;> omega)
  unfold mvP
  omega
theorem evP_lt (hR : RI r n) (hp : ∀ t, t < n → ¬ r (1 + 9 * t) = 2 → p t < 42) : evP r n p n ≤ 50000 := by
  have := sumN_le (f := fun w => ldP r n p n w * ldP r n p n w) (b := 88 * 88) 6 (fun w hw => Nat.mul_le_mul (ldP_lt hR hp hw) (ldP_lt hR hp hw))
  unfold evP
  omega
/-- what the reference's look() leaves -/
def LKP (σ σ' : Mem) : Prop := (∀ a, a ≠ 60 → a ≠ 69 → σ' a = σ a) ∧ ∀ j, j ≠ 12 → j ≠ 13 → j ≠ 14 → σ' 60 j = σ 60 j
theorem m_look {bm : Bool} {x1 : Int32} {A : AS} (hx : x1 = 0 ↔ bm = false) (hR : RI r n) (hO : OW r n σ) (h61 : σ 61 = rowp r n p) (hp : ∀ t, t < n → ¬ r (1 + 9 * t) = 2 → p t < 42 ∧ pmg r t (p t)) (hA : RelM r n σ A) (hw : A.1 < 2 ^ 30) (h : ∀ σ', LKP σ σ' → RelM r n σ' (lk r n bm p A) → Q [] σ') : Ec S (d + 4) 161 [.inr (some 60), .inl x1] σ Q := by
  have hn8 := hR.1
  have hp' : ∀ t, t < n → ¬ r (1 + 9 * t) = 2 → p t < 42 := fun t ht hs => (hp t ht hs).1
  have hRR : RI (σ 61) n := by rw [h61]; exact RI_row hR hp'
  have hmv := mvP_lt (r := r) (p := p) hn8
  have hev := evP_lt hR hp'
  refine Ec_of rfl (g_161_0 (m_fault hRR (g_161_2 ?_)))
  rw [h61]
  by_cases hv : VP r n p n
  · refine br_t ((full_ok hR hp).mpr hv) ?_
    have hlt : (if bm then mvP r p n else 0) ≤ 16 := by split <;> omega
    generalize hk : (if bm then mvP r p n else 0) = mk at hlt
    -- the plan becomes the best
    have store : ∀ (o1 o2 o3 : Option MV), A.1 = 0 ∨ btr A mk (evP r n p n) → Ev S (d + 4) 161 37 [some (.inr (some 60)), o1, o2, o3, some (.inl 0)] [] (up (up σ 60 13 (nI mk)) 60 14 (nI (evP r n p n))) Q := by
      intro o1 o2 o3 hb
      have hO' : OW r n (up (up σ 60 13 (nI mk)) 60 14 (nI (evP r n p n))) := by
        unfold OW
        rw [up_off (by decide), up_off (by decide), up_ne (by decide), up_ne (by decide), up_ne (by decide), up_ne (by decide)]
        exact hO
      refine st_loop hn8 (p := p) n 0 _ (by omega) hO' (by rw [up_ne (by decide), up_ne (by decide)]; exact h61) (fun σ' a b c => h _ ⟨fun x x1 x2 => ?_, fun j j1 j2 j3 => ?_⟩ ?_)
      · rw [up_ne x1, a x x2, up_ne x1, up_ne x1]
      · rw [up_off j1, a 60 (by decide), up_off j3, up_off j2]
      · rw [lk_t hv (by rw [hk]; exact hb), hk]
        refine ⟨?_, fun _ => ⟨?_, ?_, by show mk < 1000; omega, by show evP r n p n < 1000000; omega, fun t ht hs => ⟨hp' t ht hs, ?_⟩⟩⟩
        · rw [up_self, a 60 (by decide), up_off (by decide), up_off (by decide), hA.1, nI_1]
        · rw [up_off (by decide), a 60 (by decide), up_off (by decide), up_self]
        · rw [up_off (by decide), a 60 (by decide), up_self]
        · rw [up_ne (by decide)]
          exact b t (by omega) ht hs
    have keep : ¬ (A.1 = 0 ∨ btr A mk (evP r n p n)) → Q [] (up σ 60 12 (σ 60 12 + 1)) := fun hb => by
      refine h _ ⟨fun x x1 x2 => up_ne x1, fun j j1 j2 j3 => up_off j1⟩ ?_
      rw [lk_w hv (by rw [hk]; exact hb)]
      have h0 : 0 < A.1 := by
        rcases Nat.eq_zero_or_pos A.1 with z | z
        · exact absurd (Or.inl z) hb
        · exact z
      obtain ⟨b1, b2, b3, b4, b5⟩ := hA.2 h0
      refine ⟨by rw [up_self, hA.1, nI_1], fun _ => ⟨by rw [up_off (by decide)]; exact b1, by rw [up_off (by decide)]; exact b2, b3, b4, fun t ht hs => ?_⟩⟩
      rw [up_ne (by decide)]
      exact b5 t ht hs
    have fin : ∀ (o1 o3 o4 : Option MV), Ev S (d + 4) 161 13 [some (.inr (some 60)), o1, some (.inl (nI mk)), o3, o4] [.inl (nI (evP r n p n))] σ Q := by
      intro o1 o3 o4
      refine g_161_13 ?_
      rw [hA.1]
      by_cases h0 : A.1 = 0
      · exact br_t (by rw [h0]; rfl) (store _ _ _ (Or.inl h0))
      · refine br_f (fun z => h0 ((nI_inj (b := 0) hw (by decide)).mp z)) ?_
        obtain ⟨b1, b2, b3, b4, b5⟩ := hA.2 (by omega)
        rw [b1, b2, nI_ltI (by omega) (by omega), nI_inj (by omega) (by omega), nI_leI (by omega) (by omega)]
        have hor : ∀ {X : Prop}, (btr A mk (evP r n p n) → X) → (¬ btr A mk (evP r n p n) → X) → X := fun a b => (Classical.em _).elim a b
        by_cases c1 : mk < A.2.1
        · exact br_t c1 (store _ _ _ (Or.inr (Or.inl c1)))
        · refine br_f c1 ?_
          by_cases c2 : mk = A.2.1
          · refine br_f (not_not_intro c2) ?_
            by_cases c3 : A.2.2.1 ≤ evP r n p n
            · refine br_t c3 ?_
              rw [← hA.1]
              refine keep (fun z => ?_)
              rcases z with z | z | z
              · exact h0 z
              · exact c1 z
              · omega
            · exact br_f c3 (store _ _ _ (Or.inr (Or.inr ⟨c2, by omega⟩)))
          · refine br_t c2 ?_
            rw [← hA.1]
            refine keep (fun z => ?_)
            rcases z with z | z | z
            · exact h0 z
            · exact c1 z
            · exact c2 z.1
    have ev : ∀ (Q' : MQ1), Q' [.inl (nI (evP r n p n))] σ → Ec S (d + 3) 154 [.inr (some 60)] σ Q' := fun Q' hq => m_even hRR (by rw [h61, ev_row hR hp']; exact hq)
    cases hbm : bm with
    | false =>
      have e0 : mk = 0 := by rw [← hk, hbm]; rfl
      refine br_t (hx.mpr hbm) (ev _ ?_)
      have := fin (some (.inl x1)) none none
      rw [e0] at this
      exact this
    | true =>
      have e0 : mk = mvP r p n := by rw [← hk, hbm]; rfl
      refine br_f (fun z => by rw [hx.mp z] at hbm; cases hbm) (Ec_of rfl (g_160_0 (mv_loop hn8 hO h61 (g_161_8 (ev _ ?_)) n 0 (by omega))))
      rw [← e0]
      exact fin _ _ _
  · refine br_f (fun z => hv ((full_ok hR hp).mp z)) (h σ ⟨fun _ _ _ => rfl, fun _ _ _ _ => rfl⟩ ?_)
    rw [lk_f hv]
    exact hA
end LOOK
