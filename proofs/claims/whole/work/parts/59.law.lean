theorem LK_on {S : Nat × (Nat → Int32)} {dc yc dm ym : Nat} {As : List MV} {σ : Mem} {K : MQ1} (h : LK S dc yc dm ym As σ) (k : ∀ (v : Int32) (σ1 : Mem), Ec S dm ym (.inr (some 60) :: As) σ1 (fun rv2 σ2 => rv2 = [.inl v] ∧ GI σ2) → K [.inl v] σ1) : Ec S dc yc (.inr (some 0) :: As) σ K := by
  refine Ec.mono h (fun rv σ1 h1 => ?_)
  obtain ⟨n, kR, stR, σ2, rv2, a, b, v, e1, e2, hG⟩ := h1
  subst e1
  exact k v σ1 ⟨n, kR, stR, σ2, rv2, a, b, e2, hG⟩
theorem i_p (i k : Nat) : nI i + nI k = nI (i + k) := nI_add i k
theorem law_loop {S : Nat × (Nat → Int32)} {d : Nat} (hL : S.1 ≤ 3072) : ∀ (q i : Nat) (σ : Mem), S.1 < 6 + i + q → i < 10000 → GI σ → Ev S (d + 14) 0 10 [some (.inr (some m_scr)), some (.inr (some 0)), some (.inr (some 60)), some (.inl (nI i))] [] σ (fun rv _ => rv = [.inl 1])
  | q, i, σ, hq, hi, hG => by
    have hS : S.1 < 10000 := by omega
    have ecmp : (Int32.ofNat S.1) - 6 < nI i ↔ S.1 < 6 + i := by
      show nI S.1 - nI 6 < nI i ↔ _
      rw [Int32.lt_iff_toInt_lt, Int32.toInt_sub, nI_toInt (by omega), nI_toInt (by omega), nI_toInt (by omega), Int.bmod_eq_of_le (by omega) (by omega)]
      omega
    refine g_0_10 hS ?_
    rw [ecmp]
    by_cases hend : S.1 < 6 + i
    · exact br_t hend rfl
    obtain ⟨q', rfl⟩ : ∃ q', q = q' + 1 := ⟨q - 1, by omega⟩
    have next : ∀ σ2 : Mem, GI σ2 → Ev S (d + 14) 0 10 [some (.inr (some m_scr)), some (.inr (some 0)), some (.inr (some 60)), some (.inl (nI i + 6))] [] σ2 (fun rv _ => rv = [.inl 1]) := fun σ2 hG2 => by
      rw [show nI i + 6 = nI (i + 6) from i_p i 6]
      exact law_loop hL q' (i + 6) σ2 (by omega) (by omega) hG2
    have i1 : i + 1 < S.1 := by omega
    have i2 : i + 2 < S.1 := by omega
    have i3 : i + 3 < S.1 := by omega
    have i4 : i + 4 < S.1 := by omega
    have i5 : i + 5 < S.1 := by omega
    refine br_f hend ⟨i, rfl, by omega, fun _ => ?_, fun _ => ?_, fun _ => ?_, fun _ => ?_, fun _ => ?_, fun _ => ?_, fun _ => ?_, fun _ => ?_, fun _ => ?_, fun _ => ?_, fun _ => ?_, fun _ => ?_, fun _ => ?_, fun _ => ?_, fun _ => ?_, fun _ => ?_, fun _ => ?_, fun _ => ?_, fun _ => ?_, fun _ => ?_, fun _ => ?_, fun _ => ?_, fun _ => ?_, fun _ => ?_, fun _ => ?_, fun _ => ?_, fun _ => ?_, fun _ => ?_, fun _ => ?_, fun _ => ?_, fun _ => next σ hG⟩
    · exact ⟨i + 1, i_p i 1, i1, i + 2, i_p i 2, i2, LK_on (L_topic hG) (fun v σ1 hm => g_0_34 hS ⟨i + 1, i_p i 1, i1, i + 2, i_p i 2, i2, Ec.mono hm (fun rv2 σ2 h2 => by obtain ⟨rfl, hG2⟩ := h2; exact g_0_46 hS (br_t rfl (next σ2 hG2)))⟩)⟩
    · exact ⟨i + 1, i_p i 1, i1, i + 2, i_p i 2, i2, LK_on (L_as hG) (fun v σ1 hm => g_0_61 hS ⟨i + 1, i_p i 1, i1, i + 2, i_p i 2, i2, Ec.mono hm (fun rv2 σ2 h2 => by obtain ⟨rfl, hG2⟩ := h2; exact g_0_73 hS (br_t rfl (next σ2 hG2)))⟩)⟩
    · by_cases hb : S.2 (i + 3) = 0
      · exact ⟨i + 1, i_p i 1, i1, i + 2, i_p i 2, i2, i + 3, i_p i 3, i3, br_t hb (LK_on (L_need hG (Or.inl rfl)) (fun v σ1 hm => g_0_97 hS ⟨i + 1, i_p i 1, i1, i + 2, i_p i 2, i2, i + 3, i_p i 3, i3, br_t hb (Ec.mono hm (fun rv2 σ2 h2 => by obtain ⟨rfl, hG2⟩ := h2; exact g_0_118 hS (br_t rfl (next σ2 hG2))))⟩))⟩
      · exact ⟨i + 1, i_p i 1, i1, i + 2, i_p i 2, i2, i + 3, i_p i 3, i3, br_f hb (LK_on (L_need hG (Or.inr rfl)) (fun v σ1 hm => g_0_97 hS ⟨i + 1, i_p i 1, i1, i + 2, i_p i 2, i2, i + 3, i_p i 3, i3, br_f hb (Ec.mono hm (fun rv2 σ2 h2 => by obtain ⟨rfl, hG2⟩ := h2; exact g_0_118 hS (br_t rfl (next σ2 hG2))))⟩))⟩
    · exact ⟨i + 1, i_p i 1, i1, i + 2, i_p i 2, i2, LK_on (L_comes hG) (fun v σ1 hm => g_0_133 hS ⟨i + 1, i_p i 1, i1, i + 2, i_p i 2, i2, Ec.mono hm (fun rv2 σ2 h2 => by obtain ⟨rfl, hG2⟩ := h2; exact g_0_145 hS (br_t rfl (next σ2 hG2)))⟩)⟩
    · exact ⟨i + 1, i_p i 1, i1, i + 2, i_p i 2, i2, LK_on (L_standards hG) (fun v σ1 hm => g_0_160 hS ⟨i + 1, i_p i 1, i1, i + 2, i_p i 2, i2, Ec.mono hm (fun rv2 σ2 h2 => by obtain ⟨rfl, hG2⟩ := h2; exact g_0_172 hS (br_t rfl (next σ2 hG2)))⟩)⟩
    · exact ⟨i + 1, i_p i 1, i1, i + 2, i_p i 2, i2, LK_on (L_partner hG) (fun v σ1 hm => g_0_187 hS ⟨i + 1, i_p i 1, i1, i + 2, i_p i 2, i2, Ec.mono hm (fun rv2 σ2 h2 => by obtain ⟨rfl, hG2⟩ := h2; exact g_0_199 hS (br_t rfl (next σ2 hG2)))⟩)⟩
    · exact ⟨i + 1, i_p i 1, i1, i + 2, i_p i 2, i2, LK_on (L_of hG) (fun v σ1 hm => g_0_214 hS ⟨i + 1, i_p i 1, i1, i + 2, i_p i 2, i2, Ec.mono hm (fun rv2 σ2 h2 => by obtain ⟨rfl, hG2⟩ := h2; exact g_0_226 hS (br_t rfl (next σ2 hG2)))⟩)⟩
    · exact ⟨i + 1, i_p i 1, i1, i + 2, i_p i 2, i2, LK_on (L_room hG) (fun v σ1 hm => g_0_241 hS ⟨i + 1, i_p i 1, i1, i + 2, i_p i 2, i2, Ec.mono hm (fun rv2 σ2 h2 => by obtain ⟨rfl, hG2⟩ := h2; exact g_0_253 hS (br_t rfl (next σ2 hG2)))⟩)⟩
    · by_cases hb : S.2 (i + 2) = 0
      · exact ⟨i + 1, i_p i 1, i1, i + 2, i_p i 2, i2, br_t hb (LK_on (L_snow hG (Or.inl rfl)) (fun v σ1 hm => g_0_272 hS ⟨i + 1, i_p i 1, i1, i + 2, i_p i 2, i2, br_t hb (Ec.mono hm (fun rv2 σ2 h2 => by obtain ⟨rfl, hG2⟩ := h2; exact g_0_288 hS (br_t rfl (next σ2 hG2))))⟩))⟩
      · exact ⟨i + 1, i_p i 1, i1, i + 2, i_p i 2, i2, br_f hb (LK_on (L_snow hG (Or.inr rfl)) (fun v σ1 hm => g_0_272 hS ⟨i + 1, i_p i 1, i1, i + 2, i_p i 2, i2, br_f hb (Ec.mono hm (fun rv2 σ2 h2 => by obtain ⟨rfl, hG2⟩ := h2; exact g_0_288 hS (br_t rfl (next σ2 hG2))))⟩))⟩
    · exact ⟨i + 1, i_p i 1, i1, LK_on (L_test hG) (fun v σ1 hm => g_0_298 hS ⟨i + 1, i_p i 1, i1, Ec.mono hm (fun rv2 σ2 h2 => by obtain ⟨rfl, hG2⟩ := h2; exact g_0_305 hS (br_t rfl (next σ2 hG2)))⟩)⟩
    · exact ⟨i + 1, i_p i 1, i1, i + 2, i_p i 2, i2, i + 3, i_p i 3, i3, LK_on (L_sheet hG) (fun v σ1 hm => g_0_325 hS ⟨i + 1, i_p i 1, i1, i + 2, i_p i 2, i2, i + 3, i_p i 3, i3, Ec.mono hm (fun rv2 σ2 h2 => by obtain ⟨rfl, hG2⟩ := h2; exact g_0_342 hS (br_t rfl (next σ2 hG2)))⟩)⟩
    · exact ⟨i + 1, i_p i 1, i1, i + 2, i_p i 2, i2, i + 3, i_p i 3, i3, LK_on (L_write hG) (fun v σ1 hm => g_0_362 hS ⟨i + 1, i_p i 1, i1, i + 2, i_p i 2, i2, i + 3, i_p i 3, i3, Ec.mono hm (fun rv2 σ2 h2 => by obtain ⟨rfl, hG2⟩ := h2; exact g_0_379 hS (br_t rfl (next σ2 hG2)))⟩)⟩
    · exact ⟨i + 1, i_p i 1, i1, i + 2, i_p i 2, i2, i + 3, i_p i 3, i3, i + 4, i_p i 4, i4, i + 5, i_p i 5, i5, LK_on (L_copy hG) (fun v σ1 hm => g_0_409 hS ⟨i + 1, i_p i 1, i1, i + 2, i_p i 2, i2, i + 3, i_p i 3, i3, i + 4, i_p i 4, i4, i + 5, i_p i 5, i5, Ec.mono hm (fun rv2 σ2 h2 => by obtain ⟨rfl, hG2⟩ := h2; exact g_0_436 hS (br_t rfl (next σ2 hG2)))⟩)⟩
    · exact ⟨i + 1, i_p i 1, i1, LK_on (L_read hG) (fun v σ1 hm => g_0_446 hS ⟨i + 1, i_p i 1, i1, Ec.mono hm (fun rv2 σ2 h2 => by obtain ⟨rfl, hG2⟩ := h2; exact g_0_453 hS (br_t rfl (next σ2 hG2)))⟩)⟩
    · exact ⟨i + 1, i_p i 1, i1, i + 2, i_p i 2, i2, LK_on (L_put hG) (fun v σ1 hm => g_0_468 hS ⟨i + 1, i_p i 1, i1, i + 2, i_p i 2, i2, Ec.mono hm (fun rv2 σ2 h2 => by obtain ⟨rfl, hG2⟩ := h2; exact g_0_480 hS (br_t rfl (next σ2 hG2)))⟩)⟩
    · exact ⟨i + 1, i_p i 1, i1, i + 2, i_p i 2, i2, LK_on (L_again hG) (fun v σ1 hm => g_0_495 hS ⟨i + 1, i_p i 1, i1, i + 2, i_p i 2, i2, Ec.mono hm (fun rv2 σ2 h2 => by obtain ⟨rfl, hG2⟩ := h2; exact g_0_507 hS (br_t rfl (next σ2 hG2)))⟩)⟩
    · exact LK_on (L_fault hG) (fun v σ1 hm => g_0_512 hS (Ec.mono hm (fun rv2 σ2 h2 => by obtain ⟨rfl, hG2⟩ := h2; exact g_0_514 hS (br_t rfl (next σ2 hG2)))))
    · exact ⟨i + 1, i_p i 1, i1, LK_on (L_load hG) (fun v σ1 hm => g_0_524 hS ⟨i + 1, i_p i 1, i1, Ec.mono hm (fun rv2 σ2 h2 => by obtain ⟨rfl, hG2⟩ := h2; exact g_0_531 hS (br_t rfl (next σ2 hG2)))⟩)⟩
    · exact LK_on (L_even hG) (fun v σ1 hm => g_0_536 hS (Ec.mono hm (fun rv2 σ2 h2 => by obtain ⟨rfl, hG2⟩ := h2; exact g_0_538 hS (br_t rfl (next σ2 hG2)))))
    · by_cases hb : S.2 (i + 1) = 0
      · exact ⟨i + 1, i_p i 1, i1, br_t hb (LK_on (L_best hG) (fun v σ1 hm => g_0_552 hS ⟨i + 1, i_p i 1, i1, br_t hb (Ec.mono hm (fun rv2 σ2 h2 => by obtain ⟨rfl, hG2⟩ := h2; exact g_0_563 hS (br_t rfl (next σ2 hG2))))⟩))⟩
      · exact ⟨i + 1, i_p i 1, i1, br_f hb (LK_on (L_best hG) (fun v σ1 hm => g_0_552 hS ⟨i + 1, i_p i 1, i1, br_f hb (Ec.mono hm (fun rv2 σ2 h2 => by obtain ⟨rfl, hG2⟩ := h2; exact g_0_563 hS (br_t rfl (next σ2 hG2))))⟩))⟩
    · exact LK_on (L_plans hG) (fun v σ1 hm => g_0_568 hS (Ec.mono hm (fun rv2 σ2 h2 => by obtain ⟨rfl, hG2⟩ := h2; exact g_0_570 hS (br_t rfl (next σ2 hG2)))))
    · by_cases hb : S.2 (i + 1) = 0
      · exact ⟨i + 1, i_p i 1, i1, br_t hb (LK_on (L_least hG) (fun v σ1 hm => g_0_584 hS ⟨i + 1, i_p i 1, i1, br_t hb (Ec.mono hm (fun rv2 σ2 h2 => by obtain ⟨rfl, hG2⟩ := h2; exact g_0_595 hS (br_t rfl (next σ2 hG2))))⟩))⟩
      · exact ⟨i + 1, i_p i 1, i1, br_f hb (LK_on (L_least hG) (fun v σ1 hm => g_0_584 hS ⟨i + 1, i_p i 1, i1, br_f hb (Ec.mono hm (fun rv2 σ2 h2 => by obtain ⟨rfl, hG2⟩ := h2; exact g_0_595 hS (br_t rfl (next σ2 hG2))))⟩))⟩
    · by_cases hb : S.2 (i + 2) = 0
      · exact ⟨i + 1, i_p i 1, i1, i + 2, i_p i 2, i2, br_t hb (LK_on (L_late hG) (fun v σ1 hm => g_0_614 hS ⟨i + 1, i_p i 1, i1, i + 2, i_p i 2, i2, br_t hb (Ec.mono hm (fun rv2 σ2 h2 => by obtain ⟨rfl, hG2⟩ := h2; exact g_0_630 hS (br_t rfl (next σ2 hG2))))⟩))⟩
      · exact ⟨i + 1, i_p i 1, i1, i + 2, i_p i 2, i2, br_f hb (LK_on (L_late hG) (fun v σ1 hm => g_0_614 hS ⟨i + 1, i_p i 1, i1, i + 2, i_p i 2, i2, br_f hb (Ec.mono hm (fun rv2 σ2 h2 => by obtain ⟨rfl, hG2⟩ := h2; exact g_0_630 hS (br_t rfl (next σ2 hG2))))⟩))⟩
    · by_cases hb : S.2 (i + 1) = 0
      · exact ⟨i + 1, i_p i 1, i1, br_t hb (LK_on (L_met hG) (fun v σ1 hm => g_0_644 hS ⟨i + 1, i_p i 1, i1, br_t hb (Ec.mono hm (fun rv2 σ2 h2 => by obtain ⟨rfl, hG2⟩ := h2; exact g_0_655 hS (br_t rfl (next σ2 hG2))))⟩))⟩
      · exact ⟨i + 1, i_p i 1, i1, br_f hb (LK_on (L_met hG) (fun v σ1 hm => g_0_644 hS ⟨i + 1, i_p i 1, i1, br_f hb (Ec.mono hm (fun rv2 σ2 h2 => by obtain ⟨rfl, hG2⟩ := h2; exact g_0_655 hS (br_t rfl (next σ2 hG2))))⟩))⟩
    · exact ⟨i + 1, i_p i 1, i1, LK_on (L_only hG) (fun v σ1 hm => g_0_665 hS ⟨i + 1, i_p i 1, i1, Ec.mono hm (fun rv2 σ2 h2 => by obtain ⟨rfl, hG2⟩ := h2; exact g_0_672 hS (br_t rfl (next σ2 hG2)))⟩)⟩
    · exact ⟨i + 1, i_p i 1, i1, i + 2, i_p i 2, i2, LK_on (L_book hG) (fun v σ1 hm => g_0_687 hS ⟨i + 1, i_p i 1, i1, i + 2, i_p i 2, i2, Ec.mono hm (fun rv2 σ2 h2 => by obtain ⟨rfl, hG2⟩ := h2; exact g_0_699 hS (br_t rfl (next σ2 hG2)))⟩)⟩
    · exact ⟨i + 1, i_p i 1, i1, i + 2, i_p i 2, i2, LK_on (L_due hG) (fun v σ1 hm => g_0_714 hS ⟨i + 1, i_p i 1, i1, i + 2, i_p i 2, i2, Ec.mono hm (fun rv2 σ2 h2 => by obtain ⟨rfl, hG2⟩ := h2; exact g_0_726 hS (br_t rfl (next σ2 hG2)))⟩)⟩
    · exact ⟨i + 1, i_p i 1, i1, LK_on (L_drift hG) (fun v σ1 hm => g_0_736 hS ⟨i + 1, i_p i 1, i1, Ec.mono hm (fun rv2 σ2 h2 => by obtain ⟨rfl, hG2⟩ := h2; exact g_0_743 hS (br_t rfl (next σ2 hG2)))⟩)⟩
    · exact LK_on (L_undo hG) (fun v σ1 hm => g_0_748 hS (Ec.mono hm (fun rv2 σ2 h2 => by obtain ⟨rfl, hG2⟩ := h2; exact g_0_750 hS (br_t rfl (next σ2 hG2)))))
    · exact ⟨i + 1, i_p i 1, i1, LK_on (L_told hG) (fun v σ1 hm => g_0_760 hS ⟨i + 1, i_p i 1, i1, Ec.mono hm (fun rv2 σ2 h2 => by obtain ⟨rfl, hG2⟩ := h2; exact g_0_767 hS (br_t rfl (next σ2 hG2)))⟩)⟩
theorem law_ev : law_ok := fun L xs hL => law_loop (S := (L, xs)) (d := 17) hL (L + 1) 0 σ0 (show L < 6 + 0 + (L + 1) by omega) (by omega) GI0
