/-! the system's search: the places -/
noncomputable def oc (r : Nat → Int32) (t : Nat) : Nat → Nat
  | 0 => 0
  | g + 1 => oc r t g + @ite _ (opc r t g) (Classical.propDecidable _) 1 0
theorem oc_t {r : Nat → Int32} {t g : Nat} (h : opc r t g) : oc r t (g + 1) = oc r t g + 1 := by
  show _ + _ = _
  rw [if_pos h]
theorem oc_f {r : Nat → Int32} {t g : Nat} (h : ¬ opc r t g) : oc r t (g + 1) = oc r t g := by
  show _ + _ = _
  rw [if_neg h, Nat.add_zero]
theorem oc_le {r : Nat → Int32} {t : Nat} : ∀ g, oc r t g ≤ g
  | 0 => Nat.le_refl _
  | g + 1 => by
    have := oc_le (r := r) (t := t) g
    by_cases h : opc r t g
    · rw [oc_t h]
      omega
    · rw [oc_f h]
      omega
theorem oc_mono {r : Nat → Int32} {t a : Nat} : ∀ k, oc r t a ≤ oc r t (a + k)
  | 0 => Nat.le_refl _
  | k + 1 => by
    have := oc_mono (r := r) (t := t) (a := a) k
    rw [← Nat.add_assoc]
    by_cases h : opc r t (a + k)
    · rw [oc_t h]
      omega
    · rw [oc_f h]
      exact this
theorem oc_lt {r : Nat → Int32} {t a b : Nat} (h : a < b) (ho : opc r t a) : oc r t a < oc r t b := by
  have h1 := oc_t ho
  have h2 := oc_mono (r := r) (t := t) (a := a + 1) (b - (a + 1))
  rw [show a + 1 + (b - (a + 1)) = b by omega] at h2
  omega
/-- a place k that holds topic t, its options up to the code g -/
def PDg (r : Nat → Int32) (σ : Mem) (k t g : Nat) : Prop := σ (6 + 4 * k) 3 = nI (oc r t g) ∧ σ (6 + 4 * k) 4 = nI t ∧ σ (6 + 4 * k) 5 = nI (hr r t) ∧ σ (6 + 4 * k) 6 = nI (nd r t) ∧ σ (6 + 4 * k) 7 = r (1 + 9 * t + 5) ∧ ∀ j, j < g → opc r t j → σ (7 + 4 * k) (oc r t j) = nI (ogf j) ∧ σ (8 + 4 * k) (oc r t j) = ogs j ∧ σ (9 + 4 * k) (oc r t j) = nI (mv1 r t j)
theorem PDg.same {r : Nat → Int32} {σ σ' : Mem} {k t g : Nat} (h : PDg r σ k t g) (h0 : ∀ j, j < 8 → σ' (6 + 4 * k) j = σ (6 + 4 * k) j) (h1 : ∀ a, 7 + 4 * k ≤ a → a < 10 + 4 * k → σ' a = σ a) : PDg r σ' k t g := by
  unfold PDg
  rw [h0 3 (by omega), h0 4 (by omega), h0 5 (by omega), h0 6 (by omega), h0 7 (by omega), h1 (7 + 4 * k) (by omega) (by omega), h1 (8 + 4 * k) (by omega) (by omega), h1 (9 + 4 * k) (by omega) (by omega)]
  exact h
def PF (k : Nat) (σ σ' : Mem) : Prop := ∀ a, ¬ (6 + 4 * k ≤ a ∧ a < 10 + 4 * k) → σ' a = σ a
section LIST
variable {S : Nat × (Nat → Int32)} {d n t k : Nat} {Q : MQ1} {r : Nat → Int32}
theorem c_add {σ : Mem} {g : Nat} (hk : k < 4) (hR : RI (σ 61) n) (hC : CR (σ 2) (σ 61) n) (ht : t < n) (hg : g < 42) (ho : opc (σ 61) t g) (hP : PDg (σ 61) σ k t g) (h : ∀ σ', PF k σ σ' → PDg (σ 61) σ' k t (g + 1) → Q [] σ') : Ec S (d + 1) 40 [.inr (some (6 + 4 * k)), .inr (some 1), .inl (nI (ogf g)), .inl (ogs g)] σ Q := by
  have hn8 := hR.1
  have hcf := cf hC ht
  have hle := oc_le (r := σ 61) (t := t) g
  obtain ⟨p3, p4, p5, p6, p7, p8⟩ := hP
  refine Ec_of rfl (g_40_0 (isPl_at hk).1 ?_)
  rw [p3]
  refine br_f (nI_ge (b := 42) (by omega) (by decide)) ⟨oc (σ 61) t g, rfl, by omega, oc (σ 61) t g, by rw [up_ne (by omega)]; exact p3, by omega, 8 * 5 + t, by rw [up_ne (by omega), up_ne (by omega), p4]; exact ix8 5 t, by omega, ?_⟩
  generalize hτ : up (up σ (7 + 4 * k) (oc (σ 61) t g) (nI (ogf g))) (8 + 4 * k) (oc (σ 61) t g) (ogs g) = τ
  have t2 : τ 2 = σ 2 := by rw [← hτ, up_ne (by omega), up_ne (by omega)]
  have tP : τ (6 + 4 * k) = σ (6 + 4 * k) := by rw [← hτ, up_ne (by omega), up_ne (by omega)]
  have e5 : τ 2 (8 * 5 + t) = σ 61 (1 + 9 * t + 6) := by rw [t2]; exact hcf.2.2.2.2.2.1
  have e6 : τ 2 (8 * 6 + t) = σ 61 (1 + 9 * t + 7) := by rw [t2]; exact hcf.2.2.2.2.2.2.1
  have fin : ∀ v : Int32, v = nI (mv1 (σ 61) t g) → Q [] (up (up τ (9 + 4 * k) (oc (σ 61) t g) v) (6 + 4 * k) 3 (up τ (9 + 4 * k) (oc (σ 61) t g) v (6 + 4 * k) 3 + 1)) := by
    intro v hv
    refine h _ (fun a ha => by rw [up_ne (by omega), up_ne (by omega), ← hτ, up_ne (by omega), up_ne (by omega)]) ?_
    have eP : ∀ j, j ≠ 3 → up (up τ (9 + 4 * k) (oc (σ 61) t g) v) (6 + 4 * k) 3 (up τ (9 + 4 * k) (oc (σ 61) t g) v (6 + 4 * k) 3 + 1) (6 + 4 * k) j = σ (6 + 4 * k) j := fun j hj => by rw [up_off hj, up_ne (by omega), tP]
    refine ⟨?_, by rw [eP 4 (by decide)]; exact p4, by rw [eP 5 (by decide)]; exact p5, by rw [eP 6 (by decide)]; exact p6, by rw [eP 7 (by decide)]; exact p7, fun j hj hoj => ?_⟩
    · rw [up_self, up_ne (by omega), tP, p3, nI_1, oc_t ho]
    · rw [up_ne (by omega), up_ne (by omega), up_ne (by omega), up_ne (by omega), up_ne (by omega), ← hτ, up_ne (a := 8 + 4 * k) (by omega)]
      by_cases e : j = g
      · subst e
        rw [up_self, up_self, up_self]
        exact ⟨rfl, rfl, hv⟩
      · have := oc_lt (show j < g by omega) hoj
        rw [up_off (by omega), up_off (by omega), up_ne (by omega), up_off (by omega), up_ne (by omega), up_ne (by omega)]
        exact p8 j (by omega) hoj
  rw [e5]
  by_cases h6 : nI (ogf g) = σ 61 (1 + 9 * t + 6)
  · refine br_f (not_not_intro h6) ⟨8 * 6 + t, by rw [tP, p4]; exact ix8 6 t, by omega, ?_⟩
    rw [e6]
    by_cases h7 : ogs g = σ 61 (1 + 9 * t + 7)
    · exact br_f (not_not_intro h7) ⟨oc (σ 61) t g, by rw [tP]; exact p3, by omega, fin _ (by unfold mv1; rw [if_pos h6, if_pos h7]; rfl)⟩
    · exact br_t h7 ⟨oc (σ 61) t g, by rw [tP]; exact p3, by omega, fin _ (by unfold mv1; rw [if_pos h6, if_neg h7]; rfl)⟩
  · refine br_t h6 ⟨8 * 6 + t, by rw [tP, p4]; exact ix8 6 t, by omega, ?_⟩
    rw [e6]
    by_cases h7 : ogs g = σ 61 (1 + 9 * t + 7)
    · exact br_f (not_not_intro h7) ⟨oc (σ 61) t g, by rw [tP]; exact p3, by omega, fin _ (by unfold mv1; rw [if_neg h6, if_pos h7]; rfl)⟩
    · exact br_t h7 ⟨oc (σ 61) t g, by rw [tP]; exact p3, by omega, fin _ (by unfold mv1; rw [if_neg h6, if_neg h7]; rfl)⟩
theorem PF_2 {σ σ' : Mem} (hk : k < 4) (h : PF k σ σ') : σ' 2 = σ 2 ∧ σ' 61 = σ 61 := ⟨h 2 (by omega), h 61 (by omega)⟩
theorem PF.rf {σ : Mem} : PF k σ σ := fun _ _ => rfl
theorem PF.tr {σ σ' σ'' : Mem} (h : PF k σ σ') (g : PF k σ' σ'') : PF k σ σ'' := fun a ha => (g a ha).trans (h a ha)
theorem bgn_in {o1 : Option MV} {f : Nat} (hk : k < 4) (ht : t < n) (hf : f < 6) : ∀ (q s : Nat) (σ : Mem), s + q = 7 → RI (σ 61) n → CR (σ 2) (σ 61) n → PDg (σ 61) σ k t (7 * f + s) → (∀ (σ' : Mem) (x : Int32), PF k σ σ' → PDg (σ 61) σ' k t (7 * (f + 1)) → Ev S (d + 3) 39 29 [some (.inr (some (6 + 4 * k))), o1, some (.inr (some 1)), some (.inr (some 3)), some (.inl (nI (f + 1))), some (.inl x)] [] σ' Q) → Ev S (d + 3) 39 34 [some (.inr (some (6 + 4 * k))), o1, some (.inr (some 1)), some (.inr (some 3)), some (.inl (nI f)), some (.inl (sx s))] [] σ Q
  | 0, s, σ, hs, hR, hC, hP, h => by
    have : s = 7 := by omega
    subst this
    refine g_39_34 (isPl_at hk).1 (br_t (by decide) ?_)
    rw [nI_1]
    exact h σ _ PF.rf hP
  | q + 1, s, σ, hs, hR, hC, hP, h => by
    have es := sx_ogs (f := f) (s := s) (by omega)
    have hW := sx_w (s := s) (by omega)
    have hle := oc_le (r := σ 61) (t := t) (7 * f + s)
    refine g_39_34 (isPl_at hk).1 (br_f ?_ ?_)
    · rcases hW with z | ⟨w, hw, z⟩
      · rw [z]
        decide
      · rw [z]
        exact nI_ge (b := 6) (by omega) (by decide)
    have no : ¬ opc (σ 61) t (7 * f + s) → Ev S (d + 3) 39 34 [some (.inr (some (6 + 4 * k))), o1, some (.inr (some 1)), some (.inr (some 3)), some (.inl (nI f)), some (.inl (sx s + 1))] [] σ Q := fun hno => by
      rw [sx_1]
      refine bgn_in hk ht hf q (s + 1) σ (by omega) hR hC ?_ h
      unfold PDg
      rw [← Nat.add_assoc, oc_f hno]
      refine ⟨hP.1, hP.2.1, hP.2.2.1, hP.2.2.2.1, hP.2.2.2.2.1, fun j hj hoj => hP.2.2.2.2.2 j ?_ hoj⟩
      rcases Nat.lt_or_ge j (7 * f + s) with w | w
      · exact w
      · have : j = 7 * f + s := by omega
        subst this
        exact absurd hoj hno
    have p4 := hP.2.1
    refine c32 hC hf (fun a1 => g_39_40 (isPl_at hk).1 (br_f (by decide) ?_)) (fun a1 => g_39_40 (isPl_at hk).1 (br_t rfl (no (fun z => z.1.1 (by rw [es.2]; exact a1)))))
    rw [p4]
    refine c33 hR hC ht hf hW (fun a2 => g_39_47 (isPl_at hk).1 (br_f (by decide) ?_)) (fun a2 => g_39_47 (isPl_at hk).1 (br_t rfl (no (fun z => a2 (by have := z.1.2; rw [es.1, es.2] at this; exact this)))))
    rw [p4]
    refine c34 hR hC ht (fun a3 => g_39_54 (isPl_at hk).1 (br_f (by decide) ?_)) (fun a3 => g_39_54 (isPl_at hk).1 (br_t rfl (no (fun z => a3 (by have := z.2; rw [es.1, es.2] at this; exact this)))))
    have ho : opc (σ 61) t (7 * f + s) := ⟨⟨by rw [es.2]; exact a1, by rw [es.1, es.2]; exact a2⟩, by rw [es.1, es.2]; exact a3⟩
    have := c_add (S := S) (d := d + 1) (Q := fun rv σ' => Ev S (d + 3) 39 60 [some (.inr (some (6 + 4 * k))), o1, some (.inr (some 1)), some (.inr (some 3)), some (.inl (nI f)), some (.inl (sx s))] (rv ++ []) σ' Q) hk hR hC ht (show 7 * f + s < 42 by omega) ho hP (fun σ' hF hP' => g_39_60 (isPl_at hk).1 ?_)
    · rw [es.1, es.2] at this
      exact this
    · rw [sx_1]
      obtain ⟨e2, e61⟩ := PF_2 hk hF
      refine bgn_in hk ht hf q (s + 1) σ' (by omega) (by rw [e61]; exact hR) (by rw [e2, e61]; exact hC) (by rw [e61]; exact hP') (fun σ'' x a b => h σ'' x (hF.tr a) (by rw [e61] at b; exact b))
theorem bgn_out {o1 : Option MV} (hk : k < 4) (ht : t < n) : ∀ (q f : Nat) (σ : Mem) (o5 : Option MV), f + q = 6 → RI (σ 61) n → CR (σ 2) (σ 61) n → PDg (σ 61) σ k t (7 * f) → (∀ σ' : Mem, PF k σ σ' → PDg (σ 61) σ' k t 42 → Q [] σ') → Ev S (d + 3) 39 29 [some (.inr (some (6 + 4 * k))), o1, some (.inr (some 1)), some (.inr (some 3)), some (.inl (nI f)), o5] [] σ Q
  | 0, f, σ, o5, hf, hR, hC, hP, h => by
    have : f = 6 := by omega
    subst this
    exact g_39_29 (isPl_at hk).1 (br_t (by decide) (h σ PF.rf hP))
  | q + 1, f, σ, o5, hf, hR, hC, hP, h => by
    refine g_39_29 (isPl_at hk).1 (br_f (nI_ge (b := 6) (by omega) (by decide)) (bgn_in (f := f) hk ht (by omega) 7 0 σ (by omega) hR hC hP (fun σ' x hF hP' => ?_)))
    obtain ⟨e2, e61⟩ := PF_2 hk hF
    exact bgn_out hk ht q (f + 1) σ' _ (by omega) (by rw [e61]; exact hR) (by rw [e2, e61]; exact hC) (by rw [e61]; exact hP') (fun σ'' a b => h σ'' (hF.tr a) (by rw [e61] at b; exact b))
theorem c_begin {σ : Mem} (hk : k < 4) (hR : RI (σ 61) n) (hC : CR (σ 2) (σ 61) n) (ht : t < n) (h : ∀ σ' : Mem, PF k σ σ' → PDg (σ 61) σ' k t 42 → Q [] σ') : Ec S (d + 3) 39 [.inr (some (6 + 4 * k)), .inl (nI t), .inr (some 1), .inr (some 3)] σ Q := by
  have hn8 := hR.1
  have hcf := cf hC ht
  refine Ec_of rfl (g_39_0 (isPl_at hk).1 ⟨8 * 1 + t, by rw [up_self]; exact ix8 1 t, by omega, 8 * 2 + t, by rw [up_off (by decide), up_self]; exact ix8 2 t, by omega, 8 * 8 + t, by rw [up_off (by decide), up_off (by decide), up_self]; exact ix8 8 t, by omega, ?_⟩)
  generalize hτ1 : up σ (6 + 4 * k) 4 (nI t) = τ1
  have a1 : τ1 2 = σ 2 := by rw [← hτ1, up_ne (by omega)]
  rw [a1]
  generalize hτ2 : up τ1 (6 + 4 * k) 5 (σ 2 (8 * 1 + t)) = τ2
  have a2 : τ2 2 = σ 2 := by rw [← hτ2, up_ne (by omega), a1]
  rw [a2]
  generalize hτ3 : up τ2 (6 + 4 * k) 6 (σ 2 (8 * 2 + t)) = τ3
  have a3 : τ3 2 = σ 2 := by rw [← hτ3, up_ne (by omega), a2]
  rw [a3]
  have hF : PF k σ (up (up τ3 (6 + 4 * k) 7 (σ 2 (8 * 8 + t))) (6 + 4 * k) 3 0) := fun a ha => by rw [up_ne (by omega), up_ne (by omega), ← hτ3, up_ne (by omega), ← hτ2, up_ne (by omega), ← hτ1, up_ne (by omega)]
  obtain ⟨e2, e61⟩ := PF_2 hk hF
  refine bgn_out hk ht 6 0 _ _ (by omega) (by rw [e61]; exact hR) (by rw [e2, e61]; exact hC) ?_ (fun σ' a b => h σ' (hF.tr a) (by rw [e61] at b; exact b))
  rw [e61]
  refine ⟨?_, ?_, ?_, ?_, ?_, fun j hj => absurd hj (by omega)⟩
  · rw [up_self]
    rfl
  · rw [up_off (by decide), up_off (by decide), ← hτ3, up_off (by decide), ← hτ2, up_off (by decide), ← hτ1, up_self]
  · rw [up_off (by decide), up_off (by decide), ← hτ3, up_off (by decide), ← hτ2, up_self]
    exact hcf.2.1.trans (hr_ok hR ht).1
  · rw [up_off (by decide), up_off (by decide), ← hτ3, up_self]
    exact hcf.2.2.1.trans (nd_ok hR ht).1
  · rw [up_off (by decide), up_self]
    exact hcf.2.2.2.2.2.2.2.2
/-- listPlaces -/
theorem lp_loop (h4 : pos r n ≤ 4) : ∀ (q t : Nat) (σ : Mem), t + q = n → σ 61 = r → RI r n → CR (σ 2) r n → σ 4 6 = nI (pos r t) → (∀ t', t' < t → ¬ r (1 + 9 * t') = 2 → PDg r σ (pos r t') t' 42) → (∀ σ' : Mem, (∀ a, a ≠ 4 → ¬ (6 ≤ a ∧ a < 22) → σ' a = σ a) → (∀ j, j ≠ 6 → σ' 4 j = σ 4 j) → σ' 4 6 = nI (pos r n) → (∀ t', t' < n → ¬ r (1 + 9 * t') = 2 → PDg r σ' (pos r t') t' 42) → Q [] σ') → Ev S (d + 4) 53 5 [some (.inr (some 4)), some (.inl (nI t))] [] σ Q
  | 0, t, σ, ht, h61, hR, hC, h6, hP, h => by
    have : t = n := by omega
    subst this
    refine g_53_5 ?_
    rw [hC.1]
    exact br_t (Int32.le_refl _) (h σ (fun _ _ _ => rfl) (fun _ _ => rfl) h6 hP)
  | q + 1, t, σ, ht, h61, hR, hC, h6, hP, h => by
    have hn8 := hR.1
    have hpt := pos_le (r := r) (t := t) (q + 1)
    rw [show t + (q + 1) = n by omega] at hpt
    refine g_53_5 ?_
    rw [hC.1, h6]
    refine br_f (nI_ge (by omega) (by omega)) ?_
    by_cases hfull : pos r t = 4
    · refine br_t (by rw [hfull]; decide) (h σ (fun _ _ _ => rfl) (fun _ _ => rfl) (by rw [h6]; congr 1; omega) (fun t' a b => hP t' ?_ b))
      rcases Nat.lt_or_ge t' t with w | w
      · exact w
      · have h1 := pos_lt a b
        have h2 := pos_le (r := r) (t := t) (t' - t)
        rw [show t + (t' - t) = t' by omega] at h2
        omega
    · refine br_f (nI_ge (b := 4) (by omega) (by decide)) ⟨t, ix00 t, by omega, ?_⟩
      rw [(cf hC (show t < n by omega)).1]
      by_cases hs : r (1 + 9 * t) = 2
      · refine br_f (not_not_intro hs) ?_
        rw [nI_1]
        refine lp_loop h4 q (t + 1) σ (by omega) h61 hR hC (by rw [pos_s hs]; exact h6) (fun t' a b => hP t' ?_ b) h
        rcases Nat.lt_or_ge t' t with w | w
        · exact w
        · have : t' = t := by omega
          subst this
          exact absurd hs b
      · have hk : pos r t < 4 := by omega
        refine br_t hs ⟨pos r t, _, _, _, _, rfl, (isPl_at hk).2, (isPl_at hk).1, c_begin hk (by rw [h61]; exact hR) (by rw [h61]; exact hC) (show t < n by omega) (fun σ1 hF hP1 => g_53_30 ?_)⟩
        rw [h61] at hP1
        have e46 : σ1 4 = σ 4 := hF 4 (by omega)
        rw [e46, h6, nI_1, nI_1, ← pos_n hs]
        refine lp_loop h4 q (t + 1) _ (by omega) (by rw [up_ne (by decide), hF 61 (by omega)]; exact h61) hR (by rw [up_ne (by decide), hF 2 (by omega)]; exact hC) up_self (fun t' a b => ?_) (fun σ' a b c e => h σ' (fun x x1 x2 => by rw [a x x1 x2, up_ne x1, hF x (by omega)]) (fun j hj => by rw [b j hj, up_off hj, e46]) c e)
        by_cases e : t' = t
        · subst e
          exact hP1.same (fun j hj => by rw [up_ne (by omega)]) (fun a a1 a2 => up_ne (by omega))
        · have hpp := pos_lt (show t' < t by omega) b
          exact (hP t' (by omega) b).same (fun j hj => by rw [up_ne (by omega), hF _ (by omega)]) (fun a a1 a2 => by rw [up_ne (by omega), hF _ (by omega)])
end LIST
