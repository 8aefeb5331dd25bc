theorem GS.congr {σ σ' : Mem} (h : GS σ) (e : ∀ a, (52 ≤ a ∧ a < 60) ∨ (63 ≤ a ∧ a < 66) → σ' a = σ a) : GS σ' := fun s hs => by
  have := h s hs
  rw [e (52 + 2 * s) (by omega), e (53 + 2 * s) (by omega), e 63 (by omega), e 64 (by omega), e 65 (by omega)]
  exact this
theorem GI_act {σ σk σ1 σa σ2 : Mem} {m nx : Nat} (hR : GR (σ 2) (σ 61)) (hm : m ≤ 25) (hnx : nx < 25) (hold : ∀ j, j < m → GR (σ (26 + (nx + 25 - m + j) % 25)) (fun k => σ 62 (86 * j + k))) (hS : GS σ) (hF : σ 0 5 = σ 60 6) (hK : KP σ σk m nx) (e1 : ∀ a, a ≠ 2 → σ1 a = σk a) (hA : AP σ1 σa m) (e2 : ∀ a, a ≠ 61 → σ2 a = σa a) (hR2 : GR (σ2 2) (σ2 61)) : GI σ2 := by
  obtain ⟨k1, k2, k3, k4⟩ := hK
  obtain ⟨a1, a2, a3, a4⟩ := hA
  have o : ∀ a, a ≠ 2 → a ≠ 24 → a ≠ 26 + nx → a ≠ 60 → a ≠ 61 → a ≠ 62 → σ2 a = σ a := fun a h1 h2 h3 h4 h5 h6 => by rw [e2 a h5, a1 a h4 h6, e1 a h1, k1 a h2 h3]
  have o24 : σ2 24 = σk 24 := by rw [e2 24 (by decide), a1 24 (by decide) (by decide), e1 24 (by decide)]
  refine ⟨hR2, GH_new (cr := fun j => σ (26 + j)) (kt := σ 62) (c := σ 2) (r := σ 61) hm hnx hold hR (by rw [o24]; exact k2) (by rw [o24]; exact k3) (by rw [e2 60 (by decide)]; exact a3) (fun k hk => ?_) (fun j hj hne => ?_) (fun j k hj hk => ?_), hS.congr (fun a ha => o a (by omega) (by omega) (by omega) (by omega) (by omega) (by omega)), ?_⟩
  · show σ2 (26 + nx) k = _
    rw [e2 (26 + nx) (by omega), a1 (26 + nx) (by omega) (by omega), e1 (26 + nx) (by omega)]
    exact k4 k hk
  · show σ2 (26 + j) = σ (26 + j)
    exact o _ (by omega) (by omega) (by omega) (by omega) (by omega) (by omega)
  · rw [e2 62 (by decide), a4 j k hj hk, e1 61 (by decide), k1 61 (by decide) (by omega), e1 62 (by decide), k1 62 (by decide) (by omega)]
  · rw [o 0 (by decide) (by decide) (by omega) (by decide) (by decide) (by decide), hF, e2 60 (by decide), a2 6 (by decide), e1 60 (by decide), k1 60 (by decide) (by omega)]
theorem GH.congr {hd hd' : Nat → Int32} {cr cr' : Nat → Nat → Int32} {km km' : Int32} {kt kt' : Nat → Int32} (h : GH hd cr km kt) (e1 : hd' = hd) (e3 : km' = km) (e4 : ∀ j, j < 25 → cr' j = cr j) (e5 : kt' = kt) : GH hd' cr' km' kt' := by
  subst e1
  subst e3
  subst e5
  obtain ⟨m, nx, hm, hnx, h1, h2, h3, h4⟩ := h
  refine ⟨m, nx, hm, hnx, h1, h2, h3, fun j hj => ?_⟩
  rw [e4 _ (by omega)]
  exact h4 j hj
/-- nothing but found and what search leaves has changed -/
theorem GI.congr {σ σ' : Mem} (h : GI σ) (e : ∀ a, a = 2 ∨ (24 ≤ a ∧ a < 60) ∨ (61 ≤ a ∧ a < 66) → σ' a = σ a) (e2 : σ' 60 2 = σ 60 2) (e3 : σ' 0 5 = σ' 60 6) : GI σ' := by
  obtain ⟨hR, hH, hS, hF⟩ := h
  refine ⟨?_, hH.congr (e 24 (by omega)) e2 (fun j hj => e _ (by omega)) (e 62 (by omega)), hS.congr (fun a ha => e a (by omega)), e3⟩
  rw [e 2 (by omega), e 61 (by omega)]
  exact hR
theorem GI_find {σ : Mem} (h : GI σ) : GI (up (up σ 0 5 (σ 0 5 + 1)) 60 6 (up σ 0 5 (σ 0 5 + 1) 60 6 + 1)) := by
  refine h.congr (fun a ha => by rw [up_ne (by omega), up_ne (by omega)]) (by rw [up_off (by decide), up_ne (by decide)]) ?_
  rw [up_self, up_ne (by decide), up_self, up_ne (by decide), h.2.2.2]
def LK (S : Nat × (Nat → Int32)) (dc yc dm ym : Nat) (As : List MV) (σ : Mem) : Prop := Ec S dc yc (.inr (some 0) :: As) σ (fun rv σ1 => Ec S dm ym (.inr (some 60) :: As) σ1 (fun rv2 σ2 => ∃ v : Int32, rv = [.inl v] ∧ rv2 = [.inl v] ∧ GI σ2))
theorem fin_f {σ : Mem} (h : GI σ) {f : Int32} : ∃ v : Int32, ([.inl f] : List MV) = [.inl v] ∧ ([.inl f] : List MV) = [.inl v] ∧ GI (up (up σ 0 5 (σ 0 5 + 1)) 60 6 (up σ 0 5 (σ 0 5 + 1) 60 6 + 1)) := ⟨f, rfl, rfl, GI_find h⟩
theorem ixc (x : Int32) {n : Nat} (hn : n < 2 ^ 30) : x < 0 ∨ (¬ x < 0 ∧ nI n ≤ x ∧ ¬ x < nI n) ∨ ∃ t, t < n ∧ x = nI t ∧ ¬ nI t < 0 ∧ nI t < nI n ∧ ¬ nI n ≤ nI t := by
  by_cases h0 : x < 0
  · exact Or.inl h0
  · by_cases h1 : nI n ≤ x
    · exact Or.inr (Or.inl ⟨h0, h1, Int32.not_lt.mpr h1⟩)
    · obtain ⟨t, ht, rfl⟩ := rngl hn h0 h1
      exact Or.inr (Or.inr ⟨t, ht, rfl, h0, Int32.not_le.mp h1, h1⟩)
theorem lec (x : Int32) {n : Nat} (hn : n < 2 ^ 30) : x < 0 ∨ (¬ x < 0 ∧ nI n < x ∧ ¬ x ≤ nI n) ∨ ∃ t, t ≤ n ∧ x = nI t ∧ ¬ nI t < 0 ∧ nI t ≤ nI n ∧ ¬ nI n < nI t := by
  by_cases h0 : x < 0
  · exact Or.inl h0
  · by_cases h1 : nI n < x
    · exact Or.inr (Or.inl ⟨h0, h1, Int32.not_le.mpr h1⟩)
    · obtain ⟨t, ht, rfl⟩ := rng hn h0 h1
      exact Or.inr (Or.inr ⟨t, ht, rfl, h0, Int32.not_lt.mp h1, h1⟩)
theorem ix8 (k t : Nat) : (nI k * 8) + nI t = nI (8 * k + t) := by
  rw [show (8 : Int32) = nI 8 from rfl, pk_mul, nI_add, Nat.mul_comm]
theorem e61f {σ : Mem} {v : Int32} : up σ 0 5 v 61 = σ 61 := up_ne (by decide)
theorem fin_s {σ : Mem} (h : GI σ) {f : Int32} : ∃ v : Int32, ([.inl f] : List MV) = [.inl v] ∧ ([.inl f] : List MV) = [.inl v] ∧ GI σ := ⟨f, rfl, rfl, h⟩
theorem Ec_of {S : Nat × (Nat → Int32)} {d y : Nat} {As : List MV} {ls : ML} {σ : Mem} {Q : MQ1} (e : m_ent y As = ls) (h : Ev S d y 0 ls [] σ Q) : Ec S d y As σ Q := by
  subst e
  exact h
theorem cf {c r : Nat → Int32} {n : Nat} (h : CR c r n) {t : Nat} (ht : t < n) : c t = r (1 + 9 * t) ∧ c (8 + t) = r (1 + 9 * t + 1) ∧ c (16 + t) = r (1 + 9 * t + 2) ∧ c (24 + t) = r (1 + 9 * t + 3) ∧ c (32 + t) = r (1 + 9 * t + 4) ∧ c (40 + t) = r (1 + 9 * t + 6) ∧ c (48 + t) = r (1 + 9 * t + 7) ∧ c (56 + t) = r (1 + 9 * t + 8) ∧ c (64 + t) = r (1 + 9 * t + 5) := by
  have e := fun k hk => h.2.1 k hk t ht
  exact ⟨by simpa [fm] using e 0 (by decide), by simpa [fm] using e 1 (by decide), by simpa [fm] using e 2 (by decide), by simpa [fm] using e 3 (by decide), by simpa [fm] using e 4 (by decide), by simpa [fm] using e 5 (by decide), by simpa [fm] using e 6 (by decide), by simpa [fm] using e 7 (by decide), by simpa [fm] using e 8 (by decide)⟩
theorem ix80 (t : Nat) : (0 * 8 : Int32) + nI t = nI t := by simpa using ix8 0 t
theorem ix00 (t : Nat) : (0 : Int32) + nI t = nI t := by rw [show (0 : Int32) = nI 0 from rfl, nI_add, Nat.zero_add]
theorem ix90 (t : Nat) : (1 + 9 * nI t) + 0 = nI (1 + 9 * t) := ix9 t 0
theorem L_as {S : Nat × (Nat → Int32)} {d : Nat} {σ : Mem} {x1 x2 : Int32} (hG : GI σ) : LK S (d + 2) 76 (d + 2) 129 [.inl x1, .inl x2] σ := by
  have hG' := hG
  obtain ⟨⟨n, hR, hC⟩, -, -, -⟩ := hG'
  have hn8 := hR.1
  refine Ec_of rfl (g_76_0 ?_)
  rw [hC.1]
  rcases ixc x1 (n := n) (by omega) with c | ⟨c0, c1, c2⟩ | ⟨t, ht, rfl, c0, c1, c2⟩
  · exact br_t c (Ec_of rfl (g_129_0 (br_t c (fin_f hG))))
  · exact br_f c0 (br_f c2 (Ec_of rfl (g_129_0 (br_f c0 (br_t (by rw [e61f, hR.2.1]; exact c1) (fin_f hG))))))
  · have m1 : ¬ up σ 0 5 (σ 0 5 + 1) 61 0 ≤ nI t := by rw [e61f, hR.2.1]; exact c2
    have m0 : ¬ σ 61 0 ≤ nI t := by rw [hR.2.1]; exact c2
    refine br_f c0 (br_t c1 ?_)
    rcases lec x2 (n := 3) (by decide) with b | ⟨b0, b1, b2⟩ | ⟨k, hk, rfl, b0, b1, b2⟩
    · exact br_t b (Ec_of rfl (g_129_0 (br_f c0 (br_f m1 (br_t b (fin_f hG))))))
    · exact br_f b0 (br_f b2 (Ec_of rfl (g_129_0 (br_f c0 (br_f m1 (br_f b0 (br_t b1 (fin_f hG))))))))
    · refine br_f b0 (br_t b1 ⟨t, ix80 t, by omega, ?_⟩)
      rw [(cf hC ht).1]
      by_cases a1 : nI k = 0
      · exact br_t a1 (Ec_of rfl (g_129_0 (br_f c0 (br_f m0 (br_f b0 (br_f b2 ⟨_, ix90 t, by omega, br_t a1 (fin_s hG)⟩))))))
      · refine br_f a1 ?_
        by_cases a2 : nI k = σ 61 (1 + 9 * t)
        · exact br_t a2 (Ec_of rfl (g_129_0 (br_f c0 (br_f m0 (br_f b0 (br_f b2 ⟨_, ix90 t, by omega, br_f a1 (br_t a2 (fin_s hG))⟩))))))
        · refine br_f a2 ?_
          by_cases a3 : nI k = 1
          · refine br_f (not_not_intro a3) ?_
            by_cases a4 : σ 61 (1 + 9 * t) = 3
            · exact br_f (not_not_intro a4) (Ec_of rfl (g_129_0 (br_f c0 (br_f m0 (br_f b0 (br_f b2 ⟨_, ix90 t, by omega, br_f a1 (br_f a2 (br_f (not_not_intro a3) (br_f (not_not_intro a4) (fin_s hG))))⟩))))))
            · exact br_t a4 (Ec_of rfl (g_129_0 (br_f c0 (br_f m1 (br_f b0 (br_f b2 ⟨_, ix90 t, by omega, br_f a1 (by rw [e61f]; exact br_f a2 (br_f (not_not_intro a3) (br_t a4 (fin_f hG))))⟩))))))
          · exact br_t a3 (Ec_of rfl (g_129_0 (br_f c0 (br_f m1 (br_f b0 (br_f b2 ⟨_, ix90 t, by omega, br_f a1 (by rw [e61f]; exact br_f a2 (br_t a3 (fin_f hG)))⟩))))))
/-- of -/
theorem L_of {S : Nat × (Nat → Int32)} {d : Nat} {σ : Mem} {x1 x2 : Int32} (hG : GI σ) : LK S (d + 2) 81 (d + 2) 136 [.inl x1, .inl x2] σ := by
  have hG' := hG
  obtain ⟨⟨n, hR, hC⟩, -, -, -⟩ := hG'
  have hn8 := hR.1
  refine Ec_of rfl (g_81_0 ?_)
  rw [hC.1]
  rcases ixc x1 (n := n) (by omega) with c | ⟨c0, c1, c2⟩ | ⟨t, ht, rfl, c0, c1, c2⟩
  · exact br_t c (Ec_of rfl (g_136_0 (br_t c (fin_f hG))))
  · exact br_f c0 (br_f c2 (Ec_of rfl (g_136_0 (br_f c0 (br_t (by rw [e61f, hR.2.1]; exact c1) (fin_f hG))))))
  · have m1 : ¬ up σ 0 5 (σ 0 5 + 1) 61 0 ≤ nI t := by rw [e61f, hR.2.1]; exact c2
    have m0 : ¬ σ 61 0 ≤ nI t := by rw [hR.2.1]; exact c2
    refine br_f c0 (br_t c1 ?_)
    rcases lec x2 (n := 7) (by decide) with b | ⟨b0, b1, b2⟩ | ⟨k, hk, rfl, b0, b1, b2⟩
    · exact br_t b (Ec_of rfl (g_136_0 (br_f c0 (br_f m1 (br_t b (fin_f hG))))))
    · exact br_f b0 (br_f b2 (Ec_of rfl (g_136_0 (br_f c0 (br_f m1 (br_f b0 (br_t b1 (fin_f hG))))))))
    · refine br_f b0 (br_t b1 ⟨_, ix8 k t, by omega, ?_⟩)
      have e := hC.2.1 k (by omega) t ht
      refine Ec_of rfl (g_136_0 (br_f c0 (br_f m0 (br_f b0 (br_f b2 ?_)))))
      by_cases h5 : 5 ≤ k
      · refine br_t (nI_le (a := 5) h5 (by omega)) ⟨_, by rw [nI_1]; exact ix9 t (k + 1), by omega, ⟨σ 2 (8 * k + t), rfl, ?_, hG⟩⟩
        rw [e]
        rcases (show k = 5 ∨ k = 6 ∨ k = 7 by omega) with rfl | rfl | rfl <;> rfl
      · refine br_f (nI_ge (b := 5) (by omega) (by decide)) ⟨_, ix9 t k, by omega, ⟨σ 2 (8 * k + t), rfl, ?_, hG⟩⟩
        rw [e]
        rcases (show k = 0 ∨ k = 1 ∨ k = 2 ∨ k = 3 ∨ k = 4 by omega) with rfl | rfl | rfl | rfl | rfl <;> rfl
