theorem pos_stn {r : Nat → Int32} : ∀ n, pos r n + sumN (stn r) n = n
  | 0 => rfl
  | n + 1 => by
    have ih := pos_stn (r := r) n
    show pos r (n + 1) + (sumN (stn r) n + stn r n) = n + 1
    unfold stn
    by_cases hs : r (1 + 9 * n) = 2
    · rw [pos_s hs, if_pos hs]
      unfold stn at ih
      omega
    · rw [pos_n hs, if_neg hs]
      unfold stn at ih
      omega
theorem nI_subl (a b : Nat) : nI (a + b) - nI b = nI a := by rw [← nI_add, Int32.add_sub_cancel]
section SEEK
variable {S : Nat × (Nat → Int32)} {d n : Nat} {Q : MQ1} {r : Nat → Int32} {aim : Int32} {bm : Bool} {σ : Mem}
def SR (r : Nat → Int32) (n : Nat) (aim : Int32) (σ σ' : Mem) (A : AS) : Prop := (∀ a, a ≠ 4 → a ≠ 22 → a ≠ 23 → ¬ (6 ≤ a ∧ a < 22) → σ' a = σ a) ∧ σ' 4 6 = nI (pos r n) ∧ (∀ t, t < n → ¬ r (1 + 9 * t) = 2 → PDg r σ' (pos r t) t 42) ∧ RelC r n aim σ' A
theorem c_search {x2 : Int32} {o3 : Option MV} (hb : bm = true ↔ aim = 1) (h61 : σ 61 = r) (hR : RI r n) (hC : CR (σ 2) r n) (h4 : pos r n ≤ 4) (h : ∀ σ', SR r n aim σ σ' (goM r n bm n 0 (fun _ => 0) A00) → Ev S (d + 7 + 5) 114 15 [some (.inr (some 0)), some (.inl aim), some (.inl x2), o3] [] σ' Q) : Ev S (d + 7 + 5) 114 3 [some (.inr (some 0)), some (.inl aim), some (.inl x2), o3] [.inl 0] σ Q := by
  refine g_114_3 (br_t rfl (Ec_of rfl (g_53_0 (lp_loop (r := r) h4 n 0 _ (by omega) (by rw [up_ne (by decide)]; exact h61) hR (by rw [up_ne (by decide)]; exact hC) (by rw [up_self]; rfl) (fun t' a => absurd a (Nat.not_lt_zero _)) (fun σ1 a1 a2 a3 a4 => g_114_11 ?_)))))
  have e61 : up (up σ1 4 5 aim) 4 7 0 61 = r := by rw [up_ne (by decide), up_ne (by decide), a1 61 (by decide) (by omega), up_ne (by decide)]; exact h61
  have e2 : CR (up (up σ1 4 5 aim) 4 7 0 2) r n := by rw [up_ne (by decide), up_ne (by decide), a1 2 (by decide) (by omega), up_ne (by decide)]; exact hC
  refine Ec_of rfl (g_54_0 (sl_loop (p := fun _ => 0) hR 6 0 _ 1 (by omega) e61 e2 (Or.inl ⟨rfl, fun w' hw => absurd hw (Nat.not_lt_zero _)⟩) (fun w' hw => absurd hw (Nat.not_lt_zero _)) (fun σ2 b1 b2 => ?_)))
  have f2 : ∀ a, a ≠ 22 → a ≠ 23 → σ2 a = up (up σ1 4 5 aim) 4 7 0 a := b1
  have s4 : ∀ j, σ2 4 j = if j = 7 then 0 else if j = 5 then aim else σ1 4 j := fun j => by
    rw [f2 4 (by decide) (by decide), up_at, up_at]
  have hrel : RelC r n aim σ2 A00 := ⟨⟨0, by rw [s4 7]; rfl, Nat.le_refl _, fun _ => rfl, fun z => absurd z (Nat.lt_irrefl 0)⟩, fun _ => rfl, fun _ z => absurd z (Nat.lt_irrefl 0)⟩
  have hPD : ∀ t', t' < n → ¬ r (1 + 9 * t') = 2 → PDg r σ2 (pos r t') t' 42 := fun t' a b => by
    have hk := pos_lt a b
    exact (a4 t' a b).same (fun j hj => by rw [f2 _ (by omega) (by omega), up_ne (by omega), up_ne (by omega)]) (fun x x1 x2 => by rw [f2 _ (by omega) (by omega), up_ne (by omega), up_ne (by omega)])
  have s46 : σ2 4 6 = nI (pos r n) := by rw [s4 6]; exact a3
  have fr : ∀ a, a ≠ 4 → a ≠ 22 → a ≠ 23 → ¬ (6 ≤ a ∧ a < 22) → σ2 a = σ a := fun a x y z w => by rw [f2 a y z, up_ne x, up_ne x, a1 a x w, up_ne x]
  refine ⟨fun hfit => g_51_8 (br_f (by decide) (Ec_of rfl (g_55_0 (se_loop (L := ldP r n (fun _ => 0) 0) (fun w hw => (b2 w hw).2) (g_51_14 ?_) 6 0 (by omega))))), fun hno => g_51_8 (br_t rfl (h σ2 ⟨fr, s46, hPD, ?_⟩))⟩
  · obtain ⟨d', hd'⟩ : ∃ d', d + 7 + 3 = d' + 2 * pos r n + 2 := ⟨d + 8 - 2 * pos r n, by omega⟩
    rw [hd']
    have hV : VP r n (fun _ => 0) 0 := ⟨fun b hb => absurd hb (Nat.not_lt_zero _), hfit⟩
    refine Pc (σs := σ2) hb hR h4 n 0 (fun _ => 0) A00 σ2 (pos r n) d' _ (by omega) (Nat.zero_add _) ⟨fun _ _ _ _ => rfl, ⟨by rw [s4 5]; rfl, s46⟩, hPD, fun t' a => absurd a (Nat.not_lt_zero _), fun w hw => (b2 w hw).2, fun w hw => (b2 w hw).1, hrel⟩ hV (fun t' a => absurd a (Nat.not_lt_zero _)) (Or.inr (Or.inl rfl)) ?_ (fun σ3 hI => ?_)
    · have := wb_lt (r := r) (n := n) h4
      show 0 + wb r n 0 < 2 ^ 30
      have e4 : 42 ^ 4 = 3111696 := by decide
      omega
    · refine g_51_15 (h σ3 ⟨fun a x y z w => by rw [hI.1 a x z w]; exact fr a x y z w, hI.2.1.2, hI.2.2.1, hI.2.2.2.2.2.2⟩)
  · rw [goM_inv n 0 (fun _ => 0) A00 (by omega) (fun z => hno z.2)]
    exact hrel
theorem ss_loop (hn8 : n ≤ 8) (h4 : pos r n ≤ 4) : ∀ (q t : Nat) (σ : Mem), t + q = n → σ 4 6 = nI (pos r n) → (∀ t', t' < n → ¬ r (1 + 9 * t') = 2 → σ (6 + 4 * pos r t') 4 = nI t') → (∀ σ' : Mem, (∀ a, a ≠ 2 → σ' a = σ a) → (∀ t', t ≤ t' → t' < n → ¬ r (1 + 9 * t') = 2 → σ' 2 (8 * 5 + t') = σ (6 + 4 * pos r t') 10 ∧ σ' 2 (8 * 6 + t') = σ (6 + 4 * pos r t') 11) → (∀ i, (∀ t', t ≤ t' → t' < n → ¬ r (1 + 9 * t') = 2 → i ≠ 8 * 5 + t' ∧ i ≠ 8 * 6 + t') → σ' 2 i = σ 2 i) → Q [] σ') → Ev S (d + 2) 52 2 [some (.inr (some 4)), some (.inl (nI (pos r t)))] [] σ Q
  | 0, t, σ, ht, h6, hP, h => by
    have : t = n := by omega
    subst this
    refine g_52_2 ?_
    rw [h6]
    exact br_t (Int32.le_refl _) (h σ (fun _ _ => rfl) (fun t' a b => by omega) (fun _ _ => rfl))
  | q + 1, t, σ, ht, h6, hP, h => by
    by_cases hs : r (1 + 9 * t) = 2
    · have hge : ∀ t', t ≤ t' → ¬ r (1 + 9 * t') = 2 → t + 1 ≤ t' := fun t' x z => by
        rcases Nat.lt_or_ge t t' with w | w
        · exact w
        · have : t' = t := by omega
          subst this
          exact absurd hs z
      have ih := ss_loop hn8 h4 q (t + 1) σ (by omega) h6 hP (fun σ' a b c => h σ' a (fun t' x y z => b t' (hge t' x z) y z) (fun i hi => c i (fun t' x y z => hi t' (by omega) y z)))
      rw [pos_s hs] at ih
      exact ih
    · have hpl := pos_lt (show t < n by omega) hs
      have hk : pos r t < 4 := by omega
      have p4 := hP t (by omega) hs
      refine g_52_2 ?_
      rw [h6]
      refine br_f (nI_ge hpl (by omega)) ⟨pos r t, _, _, _, _, rfl, (isPl_at hk).2, (isPl_at hk).1, Ec_of rfl (g_45_0 (isPl_at hk).1 ⟨8 * 5 + t, by rw [p4]; exact ix8 5 t, by omega, 8 * 6 + t, by rw [up_ne (by omega), p4]; exact ix8 6 t, by omega, g_52_13 ?_⟩)⟩
      rw [nI_1, ← pos_n hs, up_ne (a' := 6 + 4 * pos r t) (by omega)]
      refine ss_loop hn8 h4 q (t + 1) _ (by omega) (by rw [up_ne (by decide), up_ne (by decide)]; exact h6) (fun t' a b => by rw [up_ne (by omega), up_ne (by omega)]; exact hP t' a b) (fun σ' a b c => h σ' (fun x hx => by rw [a x hx, up_ne hx, up_ne hx]) (fun t' x y z => ?_) (fun i hi => ?_))
      · by_cases e : t' = t
        · subst e
          rw [c _ (fun t'' x1 _ _ => by omega), c _ (fun t'' x1 _ _ => by omega), up_self, up_off (by omega), up_self]
          exact ⟨rfl, rfl⟩
        · have := b t' (by omega) y z
          rw [up_ne (by omega), up_ne (by omega)] at this
          exact this
      · have hi0 := hi t (by omega) (by omega) hs
        rw [c i (fun t' x y z => hi t' (by omega) y z), up_off hi0.2, up_off hi0.1]
end SEEK
theorem CR_plan {c c' r : Nat → Int32} {n : Nat} {b : Nat → Nat} (hn : n ≤ 8) (h : CR c r n) (h5 : ∀ t, t < n → ¬ r (1 + 9 * t) = 2 → c' (8 * 5 + t) = nI (ogf (b t)) ∧ c' (8 * 6 + t) = ogs (b t)) (ho : ∀ i, (∀ t, t < n → ¬ r (1 + 9 * t) = 2 → i ≠ 8 * 5 + t ∧ i ≠ 8 * 6 + t) → c' i = c i) : CR c' (rowp r n b) n := by
  obtain ⟨h1, h2, h3, ⟨q, h4, h6, h7⟩, h8⟩ := h
  have hi : ∀ i, 72 ≤ i → c' i = c i := fun i hi => ho i (fun t a _ => by omega)
  refine ⟨by rw [hi _ (by omega)]; exact h1, fun k hk t ht => ?_, fun w hw => by rw [hi _ (by omega), rowp_hi hn (by omega)]; exact h3 w hw, ⟨q, h4, by rw [hi _ (by omega)]; exact h6, fun w hw => by rw [rowp_hi hn (by omega)]; exact h7 w hw⟩, by rw [hi _ (by omega), rowp_hi hn (by omega)]; exact h8⟩
  by_cases hs : r (1 + 9 * t) = 2
  · rw [rowp_st hs (fm_lt hk), ho _ (fun t' a b => ⟨fun z => ?_, fun z => ?_⟩)]
    · exact h2 k hk t ht
    · have : t' = t := by omega
      subst this
      exact b hs
    · have : t' = t := by omega
      subst this
      exact b hs
  · by_cases k5 : k = 5
    · subst k5
      rw [(h5 t ht hs).1]
      exact (rowp_6 ht hs).symm
    · by_cases k6 : k = 6
      · subst k6
        rw [(h5 t ht hs).2]
        exact (rowp_7 ht hs).symm
      · have hf : fm k ≠ 6 ∧ fm k ≠ 7 := by
          rcases (show k = 0 ∨ k = 1 ∨ k = 2 ∨ k = 3 ∨ k = 4 ∨ k = 7 ∨ k = 8 by omega) with rfl | rfl | rfl | rfl | rfl | rfl | rfl <;> decide
        rw [rowp_k (fm_lt hk) hf.1 hf.2, ho _ (fun t' a b => ⟨by omega, by omega⟩)]
        exact h2 k hk t ht
/-- a memory with what the reference's search leaves -/
def ov (σm σ : Mem) : Mem := fun a j => if a = 67 ∨ a = 68 ∨ a = 69 ∨ (a = 60 ∧ (j = 9 ∨ j = 12 ∨ j = 13 ∨ j = 14)) then σm a j else σ a j
theorem ov_n {σm σ : Mem} {a : Nat} (h : a ≠ 60) (h1 : a ≠ 67) (h2 : a ≠ 68) (h3 : a ≠ 69) : ov σm σ a = σ a := by
  funext j
  unfold ov
  rw [if_neg (fun z => by rcases z with z | z | z | z <;> omega)]
theorem ov_60 {σm σ : Mem} {j : Nat} (h1 : j ≠ 9) (h2 : j ≠ 12) (h3 : j ≠ 13) (h4 : j ≠ 14) : ov σm σ 60 j = σ 60 j := by
  unfold ov
  rw [if_neg (fun z => by omega)]
theorem KP_ov {σ σk σm : Mem} {m nx : Nat} (hnx : nx < 25) (h : KP σ σk m nx) : KP (ov σm σ) (ov σm σk) m nx := by
  obtain ⟨h1, h2, h3, h4⟩ := h
  refine ⟨fun a x y => ?_, by rw [ov_n (by decide) (by decide) (by decide) (by decide)]; exact h2, by rw [ov_n (by decide) (by decide) (by decide) (by decide)]; exact h3, fun k hk => ?_⟩
  · funext j
    unfold ov
    rw [h1 a x y]
  · rw [ov_n (by omega) (by omega) (by omega) (by omega), ov_n (by decide) (by decide) (by decide) (by decide)]
    exact h4 k hk
/-- the end of a search that takes the plan -/
theorem fin_take {σ σk σ1 σm σa σ2 : Mem} {n m nx : Nat} {b : Nat → Nat} (hG : GI σ) (hR : RI (σ 61) n) (hC : CR (σ 2) (σ 61) n) (hm : m ≤ 25) (hnx : nx < 25) (hold : ∀ j, j < m → GR (σ (26 + (nx + 25 - m + j) % 25)) (fun k => σ 62 (86 * j + k))) (hK : KP σ σk m nx) (e1 : ∀ a, a ≠ 2 → σ1 a = σk a) (em : ∀ a, a ≠ 60 → a ≠ 67 → a ≠ 68 → a ≠ 69 → σm a = σ1 a) (em2 : ∀ j, j ≠ 9 → j ≠ 12 → j ≠ 13 → j ≠ 14 → σm 60 j = σ1 60 j) (hA : AP σm σa m) (e2 : ∀ a, a ≠ 61 → σ2 a = σa a) (hb : ∀ t, t < n → ¬ σ 61 (1 + 9 * t) = 2 → b t < 42) (hc : CR (σ1 2) (rowp (σ 61) n b) n) (h61 : σ2 61 = rowp (σ 61) n b) : GI σ2 := by
  have hGo : GI (ov σm σ) := hG.congr (fun a ha => ov_n (by omega) (by omega) (by omega) (by omega)) (ov_60 (by decide) (by decide) (by decide) (by decide)) (by rw [ov_n (by decide) (by decide) (by decide) (by decide), ov_60 (by decide) (by decide) (by decide) (by decide)]; exact hG.2.2.2)
  have hKo := KP_ov (σm := σm) hnx hK
  refine GI_act (σ := ov σm σ) (σk := ov σm σk) (σ1 := σm) hGo.1 hm hnx (fun j hj => ?_) hGo.2.2.1 hGo.2.2.2 hKo (fun a ha => ?_) hA e2 ⟨n, ?_, ?_⟩
  · rw [ov_n (by omega) (by omega) (by omega) (by omega), ov_n (by decide) (by decide) (by decide) (by decide)]
    exact hold j hj
  · funext j
    unfold ov
    by_cases hc : a = 67 ∨ a = 68 ∨ a = 69 ∨ (a = 60 ∧ (j = 9 ∨ j = 12 ∨ j = 13 ∨ j = 14))
    · rw [if_pos hc]
    · rw [if_neg hc]
      by_cases h60 : a = 60
      · subst h60
        rw [em2 j (by omega) (by omega) (by omega) (by omega), e1 60 (by decide)]
      · rw [em a h60 (by omega) (by omega) (by omega), e1 a ha]
  · rw [h61]
    exact RI_row hR hb
  · rw [h61, e2 2 (by decide), hA.1 2 (by decide) (by decide), em 2 (by decide) (by decide) (by decide) (by decide)]
    exact hc
