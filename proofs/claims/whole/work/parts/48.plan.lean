/-! plans: a code g < 42 for each topic that is no strand: first week g / 7, second g % 7 - 1 -/
def ogf (g : Nat) : Nat := g / 7
def ogs (g : Nat) : Int32 := if g % 7 = 0 then -1 else nI (g % 7 - 1)
def pu (p : Nat → Nat) (t g : Nat) : Nat → Nat := fun i => if i = t then g else p i
theorem pu_s {p : Nat → Nat} {t g : Nat} : pu p t g t = g := if_pos rfl
theorem pu_n {p : Nat → Nat} {t g i : Nat} (h : i ≠ t) : pu p t g i = p i := if_neg h
theorem ogs_w {g : Nat} : isW (ogs g) := by
  unfold ogs
  split
  · exact Or.inl rfl
  · exact Or.inr ⟨g % 7 - 1, by omega, rfl⟩
theorem ogf_lt {g : Nat} (h : g < 42) : ogf g < 6 := by
  unfold ogf
  omega
theorem ogs_nI {g v : Nat} (hv : v < 6) : ogs g = nI v ↔ g % 7 = v + 1 := by
  unfold ogs
  split
  · exact ⟨fun z => absurd z.symm (nI_m1 (by omega)), fun z => by omega⟩
  · exact ⟨fun z => by have := one_f (by omega) hv z; omega, fun z => by congr 1; omega⟩
theorem ogs_m1 {g : Nat} : ogs g = -1 ↔ g % 7 = 0 := by
  unfold ogs
  split
  · exact ⟨fun _ => by assumption, fun _ => rfl⟩
  · exact ⟨fun z => absurd z (nI_m1 (by omega)), fun z => by omega⟩
def rowp (r : Nat → Int32) (n : Nat) (p : Nat → Nat) : Nat → Int32 := fun i =>
  if (1 ≤ i ∧ (i - 1) / 9 < n ∧ ¬ r (1 + 9 * ((i - 1) / 9)) = 2) ∧ (i - 1) % 9 = 6 then nI (ogf (p ((i - 1) / 9))) else if (1 ≤ i ∧ (i - 1) / 9 < n ∧ ¬ r (1 + 9 * ((i - 1) / 9)) = 2) ∧ (i - 1) % 9 = 7 then ogs (p ((i - 1) / 9)) else r i
section ROW
variable {r : Nat → Int32} {n t k : Nat} {p p' : Nat → Nat}
theorem rowp_6 (ht : t < n) (hs : ¬ r (1 + 9 * t) = 2) : rowp r n p (1 + 9 * t + 6) = nI (ogf (p t)) := by
  unfold rowp
  have e : (1 + 9 * t + 6 - 1) / 9 = t := by omega
  rw [e, if_pos ⟨⟨by omega, ht, hs⟩, by omega⟩]
theorem rowp_7 (ht : t < n) (hs : ¬ r (1 + 9 * t) = 2) : rowp r n p (1 + 9 * t + 7) = ogs (p t) := by
  unfold rowp
  have e : (1 + 9 * t + 7 - 1) / 9 = t := by omega
  rw [e, if_neg (fun z => by omega), if_pos ⟨⟨by omega, ht, hs⟩, by omega⟩]
theorem rowp_k (hk : k < 9) (h6 : k ≠ 6) (h7 : k ≠ 7) : rowp r n p (1 + 9 * t + k) = r (1 + 9 * t + k) := by
  unfold rowp
  rw [if_neg (fun z => by omega), if_neg (fun z => by omega)]
theorem rowp_kd : rowp r n p (1 + 9 * t) = r (1 + 9 * t) := rowp_k (k := 0) (by decide) (by decide) (by decide)
theorem rowp_st (hs : r (1 + 9 * t) = 2) (hk : k < 9) : rowp r n p (1 + 9 * t + k) = r (1 + 9 * t + k) := by
  have e : (1 + 9 * t + k - 1) / 9 = t := by omega
  unfold rowp
  rw [e, if_neg (fun z => z.1.2.2 hs), if_neg (fun z => z.1.2.2 hs)]
theorem rowp_hi (hn : n ≤ 8) (hk : 73 ≤ k) : rowp r n p k = r k := by
  unfold rowp
  rw [if_neg (fun z => by omega), if_neg (fun z => by omega)]
theorem rowp_0 : rowp r n p 0 = r 0 := by
  unfold rowp
  rw [if_neg (fun z => by omega), if_neg (fun z => by omega)]
theorem rowp_congr (h : ∀ t, t < n → ¬ r (1 + 9 * t) = 2 → p t = p' t) : rowp r n p = rowp r n p' := by
  funext i
  unfold rowp
  by_cases c : 1 ≤ i ∧ (i - 1) / 9 < n ∧ ¬ r (1 + 9 * ((i - 1) / 9)) = 2
  · rw [h _ c.2.1 c.2.2]
  · rw [if_neg (fun z => c z.1), if_neg (fun z => c z.1), if_neg (fun z => c z.1), if_neg (fun z => c z.1)]
theorem RI_row (hR : RI r n) (hp : ∀ t, t < n → ¬ r (1 + 9 * t) = 2 → p t < 42) : RI (rowp r n p) n := by
  obtain ⟨h1, h2, h3, h4, h5, h6⟩ := hR
  refine ⟨h1, by rw [rowp_0]; exact h2, fun t ht => ?_, fun w hw => by rw [rowp_hi h1 (by omega)]; exact h4 w hw, fun w hw => by rw [rowp_hi h1 (by omega)]; exact h5 w hw, by rw [rowp_hi h1 (by omega)]; exact h6⟩
  have hT := h3 t ht
  unfold TI at hT ⊢
  rw [rowp_kd, rowp_k (k := 1) (by decide) (by decide) (by decide), rowp_k (k := 2) (by decide) (by decide) (by decide), rowp_k (k := 3) (by decide) (by decide) (by decide), rowp_k (k := 4) (by decide) (by decide) (by decide), rowp_k (k := 5) (by decide) (by decide) (by decide), rowp_k (k := 8) (by decide) (by decide) (by decide)]
  by_cases hs : r (1 + 9 * t) = 2
  · rw [rowp_st hs (by decide), rowp_st hs (by decide)]
    exact hT
  · rw [rowp_6 ht hs, rowp_7 ht hs]
    obtain ⟨a0, a1, a2, a3, a4, a5, a6, a7, a8, a9, a10⟩ := hT
    exact ⟨a0, a1, a2, a3, a4, a5, Or.inr ⟨_, ogf_lt (hp t ht hs), rfl⟩, ogs_w, a8, fun z => absurd z hs, a10⟩
end ROW
def pmg (r : Nat → Int32) (t g : Nat) : Prop := ¬ r (79 + ogf g) = 1 ∧ rit r t (ogf g) (ogs g)
def opc (r : Nat → Int32) (t g : Nat) : Prop := pmg r t g ∧ aot r t (ogf g) (ogs g)
def cP (r : Nat → Int32) (t g w : Nat) : Nat := (if ogf g = w then hr r t else 0) + (if g % 7 = w + 1 then 1 else 0)
def ldP (r : Nat → Int32) (n : Nat) (p : Nat → Nat) (t w : Nat) : Nat := sumN (cS r w) n + sumN (fun t' => if r (1 + 9 * t') = 2 then 0 else cP r t' (p t') w) t
def mv1 (r : Nat → Int32) (t g : Nat) : Nat := (if nI (ogf g) = r (1 + 9 * t + 6) then 0 else 1) + (if ogs g = r (1 + 9 * t + 7) then 0 else 1)
def mvP (r : Nat → Int32) (p : Nat → Nat) (t : Nat) : Nat := sumN (fun t' => if r (1 + 9 * t') = 2 then 0 else mv1 r t' (p t')) t
def evP (r : Nat → Int32) (n : Nat) (p : Nat → Nat) (t : Nat) : Nat := sumN (fun w => ldP r n p t w * ldP r n p t w) 6
def par (r : Nat → Int32) (p : Nat → Nat) (a b : Nat) : Prop := ((nd r b).testBit a = true → ogf (p a) < ogf (p b)) ∧ ((nd r a).testBit b = true → ogf (p b) < ogf (p a)) ∧ ((r (1 + 9 * b + 5) = nI a ∨ r (1 + 9 * a + 5) = nI b) → ogf (p a) = ogf (p b))
def rmN (r : Nat → Int32) (w : Nat) : Nat := (r (73 + w)).toNatClampNeg
def VP (r : Nat → Int32) (n : Nat) (p : Nat → Nat) (t : Nat) : Prop := (∀ b, b < t → ¬ r (1 + 9 * b) = 2 → aot r b (ogf (p b)) (ogs (p b)) ∧ ∀ a, a < b → ¬ r (1 + 9 * a) = 2 → par r p a b) ∧ ∀ w, w < 6 → ldP r n p t w ≤ rmN r w
section VPS
variable {r : Nat → Int32} {n t g w : Nat} {p p' : Nat → Nat}
theorem rm_ok (h : RI r n) (hw : w < 6) : r (73 + w) = nI (rmN r w) ∧ rmN r w ≤ 40 := by
  obtain ⟨q, h2, e⟩ := h.2.2.2.1 w hw
  have e2 : rmN r w = q := by
    unfold rmN
    rw [e]
    exact nI_clamp (by omega)
  rw [e2]
  exact ⟨e, h2⟩
theorem ldP_c (h : ∀ i, i < t → p i = p' i) : ldP r n p t w = ldP r n p' t w := by
  unfold ldP
  rw [sum_eq t (fun i hi => by rw [h i hi])]
theorem mvP_c (h : ∀ i, i < t → p i = p' i) : mvP r p t = mvP r p' t := sum_eq t (fun i hi => by rw [h i hi])
theorem evP_c (h : ∀ i, i < t → p i = p' i) : evP r n p t = evP r n p' t := sum_eq 6 (fun w _ => by rw [ldP_c h])
theorem VP_c (h : ∀ i, i < t → p i = p' i) (hv : VP r n p t) : VP r n p' t := by
  refine ⟨fun b hb hs => ?_, fun w hw => by rw [← ldP_c h]; exact hv.2 w hw⟩
  obtain ⟨h1, h2⟩ := hv.1 b hb hs
  rw [← h b hb]
  refine ⟨h1, fun a ha hsa => ?_⟩
  have := h2 a ha hsa
  unfold par at this ⊢
  rw [← h b hb, ← h a (by omega)]
  exact this
theorem pu_lt (i : Nat) (h : i < t) : p i = pu p t g i := (pu_n (by omega)).symm
theorem ldP_s (hs : r (1 + 9 * t) = 2) : ldP r n p (t + 1) w = ldP r n p t w := by
  unfold ldP
  show _ + (_ + (if r (1 + 9 * t) = 2 then 0 else _)) = _
  rw [if_pos hs, Nat.add_zero]
theorem mvP_s (hs : r (1 + 9 * t) = 2) : mvP r p (t + 1) = mvP r p t := by
  show _ + (if r (1 + 9 * t) = 2 then 0 else _) = _
  rw [if_pos hs, Nat.add_zero]
  rfl
theorem evP_s (hs : r (1 + 9 * t) = 2) : evP r n p (t + 1) = evP r n p t := sum_eq 6 (fun w _ => by rw [ldP_s hs])
theorem ldP_n (hs : ¬ r (1 + 9 * t) = 2) : ldP r n p (t + 1) w = ldP r n p t w + cP r t (p t) w := by
  unfold ldP
  show _ + (_ + (if r (1 + 9 * t) = 2 then 0 else _)) = _
  rw [if_neg hs, Nat.add_assoc]
theorem mvP_n (hs : ¬ r (1 + 9 * t) = 2) : mvP r p (t + 1) = mvP r p t + mv1 r t (p t) := by
  show _ + (if r (1 + 9 * t) = 2 then 0 else _) = _
  rw [if_neg hs]
  rfl
theorem ldP_le : ldP r n p t w ≤ ldP r n p (t + 1) w := by
  by_cases hs : r (1 + 9 * t) = 2
  · rw [ldP_s hs]
    exact Nat.le_refl _
  · rw [ldP_n hs]
    omega
theorem sum_le {f h : Nat → Nat} : ∀ n, (∀ t, t < n → f t ≤ h t) → sumN f n ≤ sumN h n
  | 0, _ => Nat.le_refl _
  | n + 1, e => by
    have h1 := sum_le n (fun t ht => e t (by omega))
    have h2 := e n (by omega)
    show sumN f n + f n ≤ sumN h n + h n
    omega
theorem evP_le : evP r n p t ≤ evP r n p (t + 1) := sum_le 6 (fun w _ => Nat.mul_le_mul ldP_le ldP_le)
theorem mvP_le : mvP r p t ≤ mvP r p (t + 1) := by
  by_cases hs : r (1 + 9 * t) = 2
  · rw [mvP_s hs]
    exact Nat.le_refl _
  · rw [mvP_n hs]
    omega
theorem VP_mono (hv : VP r n p (t + 1)) : VP r n p t := ⟨fun b hb => hv.1 b (by omega), fun w hw => Nat.le_trans ldP_le (hv.2 w hw)⟩
theorem VP_s (hs : r (1 + 9 * t) = 2) (hv : VP r n p t) : VP r n p (t + 1) := by
  refine ⟨fun b hb hsb => ?_, fun w hw => by rw [ldP_s hs]; exact hv.2 w hw⟩
  by_cases e : b = t
  · subst e
    exact absurd hs hsb
  · exact hv.1 b (by omega) hsb
theorem VP_pre (hv : VP r n (pu p t g) (t + 1)) : VP r n p t := VP_c (fun i hi => pu_n (by omega)) (VP_mono hv)
theorem ld_row (hR : RI r n) (hw : w < 6) (hp : ∀ t, t < n → ¬ r (1 + 9 * t) = 2 → p t < 42) : ldN (rowp r n p) n w = ldP r n p n w := by
  unfold ldN ldP
  congr 1
  · exact sum_eq n (fun t ht => by unfold cS stn; rw [rowp_hi hR.1 (by omega), rowp_kd])
  · refine sum_eq n (fun t ht => ?_)
    by_cases hs : r (1 + 9 * t) = 2
    · rw [if_pos hs]
      exact (cF_st (w := w) (RI_row hR hp) ht (by rw [rowp_kd]; exact hs)).resolve_right (by omega)
    · rw [if_neg hs]
      unfold cF cP hr
      rw [rowp_6 ht hs, rowp_7 ht hs, rowp_k (k := 1) (by decide) (by decide) (by decide)]
      have hlt := ogf_lt (hp t ht hs)
      congr 1
      · by_cases e : ogf (p t) = w
        · rw [if_pos e, if_pos (by rw [e])]
        · rw [if_neg e, if_neg (fun z => e (one_f hlt hw z))]
      · by_cases e : p t % 7 = w + 1
        · rw [if_pos e, if_pos ((ogs_nI hw).mpr e)]
        · rw [if_neg e, if_neg (fun z => e ((ogs_nI hw).mp z))]
theorem ev_row (hR : RI r n) (hp : ∀ t, t < n → ¬ r (1 + 9 * t) = 2 → p t < 42) : evN (rowp r n p) n = evP r n p n := sum_eq 6 (fun w hw => by rw [ld_row hR hw hp])
theorem ldP_lt (hR : RI r n) (hp : ∀ t, t < n → ¬ r (1 + 9 * t) = 2 → p t < 42) (hw : w < 6) : ldP r n p n w ≤ 88 := by
  rw [← ld_row hR hw hp]
  exact ldN_lt (RI_row hR hp) hw
/-- a whole plan has no fault just when it is a plan of the search -/
theorem full_ok (hR : RI r n) (hp : ∀ t, t < n → ¬ r (1 + 9 * t) = 2 → p t < 42 ∧ pmg r t (p t)) : fV (rowp r n p) n 5 1 = 0 ↔ VP r n p n := by
  have hn8 := hR.1
  have hp' : ∀ t, t < n → ¬ r (1 + 9 * t) = 2 → p t < 42 := fun t ht hs => (hp t ht hs).1
  have hRR := RI_row hR hp'
  have end' : ∀ t, nd (rowp r n p) t = nd r t := fun t => by unfold nd; rw [rowp_k (k := 2) (by decide) (by decide) (by decide)]
  have eao : ∀ t f y, aot (rowp r n p) t f y = aot r t f y := fun t f y => by unfold aot; rw [rowp_kd, rowp_hi hn8 (by omega)]
  rw [fV_0 5 1 (by omega) (by omega) hn8, fW6_0]
  constructor
  · intro ⟨hK, hK6, hK7⟩
    refine ⟨fun b hb hsb => ?_, fun w hw => ?_⟩
    · have hb6 := rowp_6 (p := p) hb hsb
      have hlb := ogf_lt (hp' b hb hsb)
      have k5 : ∀ t, t < n → ¬ r (1 + 9 * t) = 2 → aot r t (ogf (p t)) (ogs (p t)) ∧ bes (rowp r n p) t (nI (ogf (p t))) := fun t ht hs => by
        obtain ⟨f, hf, e, h1, h2⟩ := (hK 5 (by omega) (by omega) t ht).resolve_left (by rw [rowp_kd]; exact hs)
        have e' : ogf (p t) = f := one_f (ogf_lt (hp' t ht hs)) hf ((rowp_6 ht hs).symm.trans e)
        rw [e', ← eao, ← rowp_7 ht hs]
        exact ⟨h1, h2⟩
      have k3 : ∀ t o, t < n → ¬ r (1 + 9 * t) = 2 → o < n → ¬ r (1 + 9 * o) = 2 → (nd r t).testBit o = true → ogf (p o) < ogf (p t) := fun t o ht hs ho hso hb => by
        have h1 : ahd (rowp r n p) n t (rowp r n p (1 + 9 * t + 6)) := (hK 3 (by omega) (by omega) t ht).resolve_left (by rw [rowp_kd]; exact hs)
        have h2 := h1 o ho (by rw [end']; exact hb) (by rw [rowp_kd]; exact hso)
        rw [rowp_6 ht hs, rowp_6 ho hso] at h2
        exact (nI_ltI (by have := ogf_lt (hp' o ho hso); omega) (by have := ogf_lt (hp' t ht hs); omega)).mp h2
      have kp : ∀ t o, t < n → ¬ r (1 + 9 * t) = 2 → o < n → ¬ r (1 + 9 * o) = 2 → r (1 + 9 * t + 5) = nI o → ogf (p o) = ogf (p t) := fun t o ht hs ho hso e => by
        have h1 := ((k5 t ht hs).2 o (by omega) (by rw [rowp_k (k := 5) (by decide) (by decide) (by decide)]; exact e)).resolve_left (by rw [rowp_kd]; exact hso)
        rw [rowp_6 ho hso] at h1
        exact one_f (ogf_lt (hp' o ho hso)) (ogf_lt (hp' t ht hs)) h1
      refine ⟨(k5 b hb hsb).1, fun a ha hsa => ⟨k3 b a hb hsb (by omega) hsa, k3 a b (by omega) hsa hb hsb, fun z => ?_⟩⟩
      rcases z with z | z
      · exact kp b a hb hsb (by omega) hsa z
      · exact (kp a b (by omega) hsa hb hsb z).symm
    · have h7 := hK7 w hw
      unfold K7 at h7
      rw [ld_row hR hw hp', rowp_hi hn8 (by omega), (rm_ok hR hw).1] at h7
      have := ldP_lt hR hp' hw
      have := (rm_ok hR hw).2
      exact (nI_leI (by omega) (by omega)).mp h7
  · intro hV
    have hpar : ∀ t o, t < n → ¬ r (1 + 9 * t) = 2 → o < n → ¬ r (1 + 9 * o) = 2 → o ≠ t → ((nd r t).testBit o = true → ogf (p o) < ogf (p t)) ∧ (r (1 + 9 * t + 5) = nI o → ogf (p o) = ogf (p t)) := fun t o ht hs ho hso hne => by
      rcases Nat.lt_or_ge o t with h | h
      · have := (hV.1 t ht hs).2 o h hso
        exact ⟨this.1, fun z => this.2.2 (Or.inl z)⟩
      · have := (hV.1 o ho hso).2 t (by omega) hs
        exact ⟨this.2.1, fun z => (this.2.2 (Or.inr z)).symm⟩
    refine ⟨fun l' h1 h2 t ht => ?_, fun w hw => fun hsn => ?_, fun w hw => ?_⟩
    · by_cases hs : r (1 + 9 * t) = 2
      · exact Or.inl (by rw [rowp_kd]; exact hs)
      · refine Or.inr ?_
        have h6 := rowp_6 (p := p) ht hs
        have h7 := rowp_7 (p := p) ht hs
        have hlt := ogf_lt (hp' t ht hs)
        obtain ⟨-, hpm1, hpm2⟩ := hp t ht hs
        rcases (show l' = 1 ∨ l' = 2 ∨ l' = 3 ∨ l' = 4 ∨ l' = 5 by omega) with rfl | rfl | rfl | rfl | rfl
        · show ¬ rowp r n p (1 + 9 * t + 6) = -1
          rw [h6]
          exact nI_m1 (by omega)
        · exact ⟨_, hlt, h6, by rw [rowp_hi hn8 (by omega)]; exact hpm1⟩
        · intro o ho hb hso
          rw [end'] at hb
          rw [rowp_kd] at hso
          rw [h6, rowp_6 ho hso]
          have hne : o ≠ t := fun z => by
            subst z
            rw [nd_self hR ht] at hb
            cases hb
          exact nI_lt ((hpar t o ht hs ho hso hne).1 hb) (by omega)
        · refine ⟨_, hlt, h6, ?_⟩
          rw [h7]
          unfold rit rt
          rw [rowp_k (k := 3) (by decide) (by decide) (by decide)]
          refine ⟨hpm2.1, fun z => ?_⟩
          obtain ⟨v, a, b, c, e⟩ := hpm2.2 z
          exact ⟨v, a, b, by rw [rowp_hi hn8 (by omega)]; exact c, e⟩
        · refine ⟨_, hlt, h6, by rw [h7, eao]; exact (hV.1 t ht hs).1, fun o ho e => ?_⟩
          rw [rowp_k (k := 5) (by decide) (by decide) (by decide)] at e
          rw [rowp_kd]
          by_cases hso : r (1 + 9 * o) = 2
          · exact Or.inl hso
          · refine Or.inr ?_
            obtain ⟨hon, hne⟩ : o < n ∧ o ≠ t := by
              rcases (hR.2.2.1 t ht).2.2.2.2.2.1 with z | ⟨q, hq, hqt, z⟩
              · exact absurd (e.symm.trans z) (nI_m1 (by omega))
              · have : o = q := (nI_inj (by omega) (by omega)).mp (e.symm.trans z)
                subst this
                exact ⟨hq, hqt⟩
            rw [rowp_6 hon hso, (hpar t o ht hs hon hso hne).2 e]
    · rw [rowp_hi hn8 (by omega)] at hsn
      rw [ld_row hR hw hp']
      unfold ldP
      rw [cS_0 hsn n, Nat.zero_add]
      refine sum_0 n (fun t ht => ?_)
      by_cases hs : r (1 + 9 * t) = 2
      · rw [if_pos hs]
      · rw [if_neg hs]
        obtain ⟨-, hpm1, hpm2⟩ := hp t ht hs
        unfold cP
        rw [if_neg (fun z => hpm1 (by rw [z]; exact hsn)), if_neg (fun z => ?_)]
        have es := (ogs_nI hw).mpr z
        by_cases hz : r (1 + 9 * t + 3) = 0
        · exact nI_m1 (by omega) (es.symm.trans (hpm2.1 hz))
        · obtain ⟨v, hv, e, hsv, -⟩ := hpm2.2 hz
          have : w = v := one_f hw hv (es.symm.trans e)
          subst this
          exact hsv hsn
    · unfold K7
      rw [ld_row hR hw hp', rowp_hi hn8 (by omega), (rm_ok hR hw).1]
      have := (rm_ok hR hw).2
      exact nI_le (hV.2 w hw) (by omega)
end VPS
/-! going over all plans -/
abbrev AS : Type := Nat × Nat × Nat × (Nat → Nat)
def btr (A : AS) (mv ev : Nat) : Prop := mv < A.2.1 ∨ (mv = A.2.1 ∧ ev < A.2.2.1)
noncomputable def lk (r : Nat → Int32) (n : Nat) (bm : Bool) (p : Nat → Nat) (A : AS) : AS := @ite _ (VP r n p n) (Classical.propDecidable _) (@ite _ (A.1 = 0 ∨ btr A (if bm then mvP r p n else 0) (evP r n p n)) (Classical.propDecidable _) (A.1 + 1, (if bm then mvP r p n else 0), evP r n p n, p) (A.1 + 1, A.2)) A
def gfold (F : Nat → AS → AS) : Nat → Nat → AS → AS
  | 0, _, A => A
  | c + 1, g, A => gfold F c (g + 1) (F g A)
noncomputable def goM (r : Nat → Int32) (n : Nat) (bm : Bool) : Nat → Nat → (Nat → Nat) → AS → AS
  | 0, _, p, A => lk r n bm p A
  | q + 1, t, p, A => if r (1 + 9 * t) = 2 then goM r n bm q (t + 1) p A else gfold (fun g A => @ite _ (pmg r t g) (Classical.propDecidable _) (goM r n bm q (t + 1) (pu p t g) A) A) 42 0 A
noncomputable def goF (r : Nat → Int32) (n : Nat) (bm : Bool) (q t : Nat) (p : Nat → Nat) (g : Nat) (A : AS) : AS := @ite _ (pmg r t g) (Classical.propDecidable _) (goM r n bm q (t + 1) (pu p t g) A) A
section GO
variable {r : Nat → Int32} {n q t g : Nat} {bm : Bool} {p : Nat → Nat} {A : AS}
theorem goM_s (hs : r (1 + 9 * t) = 2) : goM r n bm (q + 1) t p A = goM r n bm q (t + 1) p A := by
  conv => lhs; unfold goM
  rw [if_pos hs]
theorem goM_n (hs : ¬ r (1 + 9 * t) = 2) : goM r n bm (q + 1) t p A = gfold (goF r n bm q t p) 42 0 A := by
  conv => lhs; unfold goM
  rw [if_neg hs]
  rfl
theorem goF_t (h : pmg r t g) : goF r n bm q t p g A = goM r n bm q (t + 1) (pu p t g) A := if_pos h
theorem goF_f (h : ¬ pmg r t g) : goF r n bm q t p g A = A := if_neg h
theorem gfold_inv {F : Nat → AS → AS} {I : AS → Prop} (h : ∀ g A, I A → I (F g A)) : ∀ c g A, I A → I (gfold F c g A)
  | 0, _, _, hA => hA
  | c + 1, g, A, hA => gfold_inv h c (g + 1) _ (h g A hA)
theorem goF_inv {I : AS → Prop} (h : ∀ g A, I A → I (goM r n bm q (t + 1) (pu p t g) A)) (g : Nat) (A : AS) (hA : I A) : I (goF r n bm q t p g A) := by
  by_cases hp : pmg r t g
  · rw [goF_t hp]
    exact h g A hA
  · rw [goF_f hp]
    exact hA
theorem lk_f (h : ¬ VP r n p n) : lk r n bm p A = A := if_neg h
theorem lk_t (h : VP r n p n) (hb : A.1 = 0 ∨ btr A (if bm then mvP r p n else 0) (evP r n p n)) : lk r n bm p A = (A.1 + 1, (if bm then mvP r p n else 0), evP r n p n, p) := (if_pos h).trans (if_pos hb)
theorem lk_w (h : VP r n p n) (hb : ¬ (A.1 = 0 ∨ btr A (if bm then mvP r p n else 0) (evP r n p n))) : lk r n bm p A = (A.1 + 1, A.2) := (if_pos h).trans (if_neg hb)
theorem goM_inv : ∀ (q t : Nat) (p : Nat → Nat) (A : AS), t + q = n → ¬ VP r n p t → goM r n bm q t p A = A
  | 0, t, p, A, ht, hv => by
    have : t = n := by omega
    subst this
    exact lk_f hv
  | q + 1, t, p, A, ht, hv => by
    by_cases hs : r (1 + 9 * t) = 2
    · rw [goM_s hs]
      exact goM_inv q (t + 1) p A (by omega) (fun z => hv (VP_mono z))
    · rw [goM_n hs]
      refine gfold_inv (I := fun X => X = A) (goF_inv (fun g X hX => ?_)) 42 0 A rfl
      rw [goM_inv q (t + 1) _ X (by omega) (fun z => hv (VP_pre z))]
      exact hX
theorem btr_mono {A : AS} {a b c e : Nat} (h : ¬ btr A a b) (h1 : a ≤ c) (h2 : b ≤ e) : ¬ btr A c e := by
  unfold btr at h ⊢
  omega
theorem goM_bound : ∀ (q t : Nat) (p : Nat → Nat) (A : AS), t + q = n → 0 < A.1 → ¬ btr A (if bm then mvP r p t else 0) (evP r n p t) → 0 < (goM r n bm q t p A).1 ∧ (goM r n bm q t p A).2 = A.2
  | 0, t, p, A, ht, h0, hb => by
    have : t = n := by omega
    subst this
    show 0 < (lk r t bm p A).1 ∧ (lk r t bm p A).2 = A.2
    by_cases hv : VP r t p t
    · rw [lk_w hv (fun z => z.elim (by omega) hb)]
      exact ⟨Nat.succ_pos _, rfl⟩
    · rw [lk_f hv]
      exact ⟨h0, rfl⟩
  | q + 1, t, p, A, ht, h0, hb => by
    by_cases hs : r (1 + 9 * t) = 2
    · rw [goM_s hs]
      refine goM_bound q (t + 1) p A (by omega) h0 ?_
      rw [mvP_s hs, evP_s hs]
      exact hb
    · rw [goM_n hs]
      refine gfold_inv (I := fun X => 0 < X.1 ∧ X.2 = A.2) (goF_inv (fun g X hX => ?_)) 42 0 A ⟨h0, rfl⟩
      have h3 : ¬ btr X (if bm then mvP r (pu p t g) (t + 1) else 0) (evP r n (pu p t g) (t + 1)) := by
        have e : btr X = btr A := by
          funext a b
          unfold btr
          rw [hX.2]
        rw [e]
        refine btr_mono hb ?_ ?_
        · split
          · rw [mvP_c (p := p) (p' := pu p t g) (fun i hi => pu_lt i hi)]
            exact mvP_le
          · exact Nat.le_refl _
        · rw [evP_c (p := p) (p' := pu p t g) (fun i hi => pu_lt i hi)]
          exact evP_le
      have := goM_bound q (t + 1) _ X (by omega) hX.1 h3
      exact ⟨this.1, this.2.trans hX.2⟩
def wb (r : Nat → Int32) : Nat → Nat → Nat
  | 0, _ => 1
  | q + 1, t => if r (1 + 9 * t) = 2 then wb r q (t + 1) else 42 * wb r q (t + 1)
def pos (r : Nat → Int32) (t : Nat) : Nat := sumN (fun t => if r (1 + 9 * t) = 2 then 0 else 1) t
theorem pos_s (hs : r (1 + 9 * t) = 2) : pos r (t + 1) = pos r t := by
  show _ + (if r (1 + 9 * t) = 2 then 0 else 1) = _
  rw [if_pos hs]
  rfl
theorem pos_n (hs : ¬ r (1 + 9 * t) = 2) : pos r (t + 1) = pos r t + 1 := by
  show _ + (if r (1 + 9 * t) = 2 then 0 else 1) = _
  rw [if_neg hs]
  rfl
theorem pos_le : ∀ k, pos r t ≤ pos r (t + k)
  | 0 => Nat.le_refl _
  | k + 1 => by
    have := pos_le k
    by_cases hs : r (1 + 9 * (t + k)) = 2
    · rw [← Nat.add_assoc, pos_s hs]
      exact this
    · rw [← Nat.add_assoc, pos_n hs]
      omega
theorem pos_lt {a b : Nat} (h : a < b) (hs : ¬ r (1 + 9 * a) = 2) : pos r a < pos r b := by
  have h1 := pos_n hs
  have h2 := pos_le (r := r) (t := a + 1) (b - (a + 1))
  rw [show a + 1 + (b - (a + 1)) = b by omega] at h2
  omega
theorem pos_inj {a b : Nat} (ha : ¬ r (1 + 9 * a) = 2) (hb : ¬ r (1 + 9 * b) = 2) (h : pos r a = pos r b) : a = b := by
  rcases Nat.lt_trichotomy a b with q | q | q
  · have := pos_lt q ha
    omega
  · exact q
  · have := pos_lt q hb
    omega
theorem pos_id : ∀ t, pos r t ≤ t
  | 0 => Nat.le_refl _
  | t + 1 => by
    have := pos_id t
    by_cases hs : r (1 + 9 * t) = 2
    · rw [pos_s hs]
      omega
    · rw [pos_n hs]
      omega
theorem wb_eq : ∀ q t, wb r q t * 42 ^ pos r t = 42 ^ pos r (t + q)
  | 0, t => Nat.one_mul _
  | q + 1, t => by
    have ih := wb_eq q (t + 1)
    rw [show t + (q + 1) = t + 1 + q by omega, ← ih]
    show (if r (1 + 9 * t) = 2 then wb r q (t + 1) else 42 * wb r q (t + 1)) * _ = _
    by_cases hs : r (1 + 9 * t) = 2
    · rw [if_pos hs, pos_s hs]
    · rw [if_neg hs, pos_n hs, Nat.pow_succ, Nat.mul_comm (42 ^ pos r t) 42, ← Nat.mul_assoc, Nat.mul_comm 42 (wb r q (t + 1))]
theorem wb_lt (h : pos r n ≤ 4) : wb r n 0 ≤ 42 ^ 4 := by
  have := wb_eq (r := r) n 0
  rw [show pos r 0 = 0 from rfl, Nat.pow_zero, Nat.mul_one, Nat.zero_add] at this
  rw [this]
  exact Nat.pow_le_pow_right (by decide) h
theorem lk_le : A.1 ≤ (lk r n bm p A).1 ∧ (lk r n bm p A).1 ≤ A.1 + 1 := by
  by_cases hv : VP r n p n
  · by_cases hb : A.1 = 0 ∨ btr A (if bm then mvP r p n else 0) (evP r n p n)
    · rw [lk_t hv hb]
      exact ⟨Nat.le_succ _, Nat.le_refl _⟩
    · rw [lk_w hv hb]
      exact ⟨Nat.le_succ _, Nat.le_refl _⟩
  · rw [lk_f hv]
    exact ⟨Nat.le_refl _, Nat.le_succ _⟩
theorem gfold_le {F : Nat → AS → AS} {b : Nat} (h : ∀ g A, A.1 ≤ (F g A).1 ∧ (F g A).1 ≤ A.1 + b) : ∀ c g A, A.1 ≤ (gfold F c g A).1 ∧ (gfold F c g A).1 ≤ A.1 + c * b
  | 0, _, A => ⟨Nat.le_refl _, by show A.1 ≤ _; omega⟩
  | c + 1, g, A => by
    have h1 := h g A
    have h2 := gfold_le h c (g + 1) (F g A)
    rw [Nat.succ_mul]
    exact ⟨Nat.le_trans h1.1 h2.1, by show (gfold F c (g + 1) (F g A)).1 ≤ _; omega⟩
theorem goM_le : ∀ (q t : Nat) (p : Nat → Nat) (A : AS), A.1 ≤ (goM r n bm q t p A).1 ∧ (goM r n bm q t p A).1 ≤ A.1 + wb r q t
  | 0, t, p, A => lk_le
  | q + 1, t, p, A => by
    by_cases hs : r (1 + 9 * t) = 2
    · rw [goM_s hs, show wb r (q + 1) t = wb r q (t + 1) from if_pos hs]
      exact goM_le q (t + 1) p A
    · rw [goM_n hs, show wb r (q + 1) t = 42 * wb r q (t + 1) from if_neg hs]
      refine gfold_le (fun g A => ?_) 42 0 A
      by_cases hp : pmg r t g
      · rw [goF_t hp]
        exact goM_le q (t + 1) _ A
      · rw [goF_f hp]
        exact ⟨Nat.le_refl _, by omega⟩
theorem goF_le : A.1 ≤ (goF r n bm q t p g A).1 ∧ (goF r n bm q t p g A).1 ≤ A.1 + wb r q (t + 1) := by
  by_cases hp : pmg r t g
  · rw [goF_t hp]
    exact goM_le q (t + 1) _ A
  · rw [goF_f hp]
    exact ⟨Nat.le_refl _, by omega⟩
/-- what stands between two codes and may not stand is passed over -/
theorem gfold_skip {F : Nat → AS → AS} : ∀ (j c g : Nat) (A : AS), (∀ i, g ≤ i → i < g + j → ∀ X, F i X = X) → gfold F (j + c) g A = gfold F c (g + j) A
  | 0, c, g, A, _ => by rw [Nat.zero_add, Nat.add_zero]
  | j + 1, c, g, A, h => by
    rw [show j + 1 + c = (j + c) + 1 by omega]
    show gfold F (j + c) (g + 1) (F g A) = _
    rw [h g (by omega) (by omega) A, gfold_skip j c (g + 1) A (fun i h1 h2 => h i (by omega) (by omega)), show g + 1 + j = g + (j + 1) by omega]
end GO
