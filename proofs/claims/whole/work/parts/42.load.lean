def sumN (f : Nat → Nat) : Nat → Nat
  | 0 => 0
  | k + 1 => sumN f k + f k
def stn (r : Nat → Int32) (t : Nat) : Nat := if r (1 + 9 * t) = 2 then 1 else 0
def hr (r : Nat → Int32) (t : Nat) : Nat := (r (1 + 9 * t + 1)).toNatClampNeg
def cF (r : Nat → Int32) (w t : Nat) : Nat := (if r (1 + 9 * t + 6) = nI w then hr r t else 0) + (if r (1 + 9 * t + 7) = nI w then 1 else 0)
def cS (r : Nat → Int32) (w t : Nat) : Nat := if r (79 + w) = 1 then 0 else stn r t
def ldN (r : Nat → Int32) (n w : Nat) : Nat := sumN (cS r w) n + sumN (cF r w) n
def evN (r : Nat → Int32) (n : Nat) : Nat := sumN (fun w => ldN r n w * ldN r n w) 6
theorem hr_ok {r : Nat → Int32} {n t : Nat} (h : RI r n) (ht : t < n) : r (1 + 9 * t + 1) = nI (hr r t) ∧ 1 ≤ hr r t ∧ hr r t ≤ 9 := by
  obtain ⟨q, h1, h2, e⟩ := (h.2.2.1 t ht).2.1
  have e2 : hr r t = q := by
    unfold hr
    rw [e]
    exact nI_clamp (by omega)
  rw [e2]
  exact ⟨e, h1, h2⟩
theorem snC {c r : Nat → Int32} {n w : Nat} (hC : CR c r n) (hw : w < 6) : (((c 78) >>> (nI w &&& 31)) &&& 1) = 0 ↔ ¬ r (79 + w) = 1 := by
  obtain ⟨q, hq, e, hb⟩ := hC.2.2.2.1
  rw [e, bit_0 (by omega) (by omega), ← hb w hw]
  cases q.testBit w <;> simp
theorem cF_st {r : Nat → Int32} {n w t : Nat} (h : RI r n) (ht : t < n) (hs : r (1 + 9 * t) = 2) : cF r w t = 0 ∨ 2 ^ 30 ≤ w := by
  obtain ⟨h1, h2, -⟩ := (h.2.2.1 t ht).2.2.2.2.2.2.2.2.2.1 hs
  rcases Nat.lt_or_ge w (2 ^ 30) with hw | hw
  · left
    unfold cF
    rw [h1, h2, if_neg (fun z => nI_m1 hw z.symm), if_neg (fun z => nI_m1 hw z.symm)]
  · exact Or.inr hw
theorem cs_loop {S : Nat × (Nat → Int32)} {d n : Nat} {σ : Mem} {Q : MQ1} (hR : RI (σ 61) n) (hC : CR (σ 2) (σ 61) n) (h : Q [.inl (nI (sumN (stn (σ 61)) n))] σ) : ∀ (q t : Nat), t + q = n → Ev S (d + 1) 14 4 [some (.inr (some 1)), some (.inl (nI (sumN (stn (σ 61)) t))), some (.inl (nI t))] [] σ Q
  | 0, t, ht => by
    have : t = n := by omega
    subst this
    refine g_14_4 ?_
    rw [hC.1]
    exact br_t (Int32.le_refl _) h
  | q + 1, t, ht => by
    have hn8 := hR.1
    refine g_14_4 ?_
    rw [hC.1]
    refine br_f (nI_ge (by omega) (by omega)) ⟨_, ix00 t, by omega, ?_⟩
    rw [(cf hC (show t < n by omega)).1]
    have ih := cs_loop (S := S) (d := d) hR hC h q (t + 1) (by omega)
    by_cases hs : σ 61 (1 + 9 * t) = 2
    · refine br_f (not_not_intro hs) ?_
      rw [nI_1, nI_1, show sumN (stn (σ 61)) t + 1 = sumN (stn (σ 61)) (t + 1) by show _ = _ + stn (σ 61) t; unfold stn; rw [if_pos hs]]
      exact ih
    · refine br_t hs ?_
      rw [nI_1, show (0 : Int32) = nI 0 from rfl, nI_add, show sumN (stn (σ 61)) t + 0 = sumN (stn (σ 61)) (t + 1) by show _ = _ + stn (σ 61) t; unfold stn; rw [if_neg hs]]
      exact ih
theorem c_strands {S : Nat × (Nat → Int32)} {d n : Nat} {σ : Mem} {Q : MQ1} (hR : RI (σ 61) n) (hC : CR (σ 2) (σ 61) n) (h : Q [.inl (nI (sumN (stn (σ 61)) n))] σ) : Ec S (d + 1) 14 [.inr (some 1)] σ Q := Ec_of rfl (g_14_0 (cs_loop hR hC h n 0 (by omega)))
theorem cS_0 {r : Nat → Int32} {w : Nat} (h : r (79 + w) = 1) : ∀ n, sumN (cS r w) n = 0
  | 0 => rfl
  | n + 1 => by
    show sumN (cS r w) n + cS r w n = 0
    rw [cS_0 h n]
    unfold cS
    rw [if_pos h]
theorem cS_1 {r : Nat → Int32} {w : Nat} (h : ¬ r (79 + w) = 1) : ∀ n, sumN (cS r w) n = sumN (stn r) n
  | 0 => rfl
  | n + 1 => by
    show sumN (cS r w) n + cS r w n = sumN (stn r) n + stn r n
    rw [cS_1 h n]
    unfold cS
    rw [if_neg h]
theorem cl_loop {S : Nat × (Nat → Int32)} {d n w z : Nat} {σ : Mem} {Q : MQ1} (hR : RI (σ 61) n) (hC : CR (σ 2) (σ 61) n) (h : Q [.inl (nI (z + sumN (cF (σ 61) w) n))] σ) : ∀ (q t : Nat), t + q = n → Ev S (d + 3) 30 6 [some (.inr (some 3)), some (.inl (nI w)), some (.inl (nI (z + sumN (cF (σ 61) w) t))), some (.inl (nI t))] [] σ Q
  | 0, t, ht => by
    have : t = n := by omega
    subst this
    refine g_30_6 ?_
    rw [hC.1]
    exact br_t (Int32.le_refl _) h
  | q + 1, t, ht => by
    have hn8 := hR.1
    have ih := cl_loop (S := S) (d := d) hR hC h q (t + 1) (by omega)
    have hcf := cf hC (show t < n by omega)
    refine g_30_6 ?_
    rw [hC.1]
    refine br_f (nI_ge (by omega) (by omega)) ⟨_, ix8 5 t, by omega, ?_⟩
    rw [show σ 2 (8 * 5 + t) = σ 61 (1 + 9 * t + 6) from hcf.2.2.2.2.2.1]
    have e2 : σ 2 (8 * 6 + t) = σ 61 (1 + 9 * t + 7) := hcf.2.2.2.2.2.2.1
    have e1 : σ 2 (8 * 1 + t) = nI (hr (σ 61) t) := hcf.2.1.trans (hr_ok hR (show t < n by omega)).1
    have es : ∀ v, cF (σ 61) w t = v → z + sumN (cF (σ 61) w) (t + 1) = z + sumN (cF (σ 61) w) t + v := fun v hv => by
      show z + (sumN (cF (σ 61) w) t + cF (σ 61) w t) = _
      omega
    by_cases h1 : σ 61 (1 + 9 * t + 6) = nI w
    · refine br_f (not_not_intro h1) ⟨_, ix8 1 t, by omega, _, ix8 6 t, by omega, ?_⟩
      rw [e1, e2]
      by_cases h2 : σ 61 (1 + 9 * t + 7) = nI w
      · refine br_f (not_not_intro h2) ?_
        rw [nI_1, nI_add, nI_1, Nat.add_assoc, ← es (hr (σ 61) t + 1) (by unfold cF; rw [if_pos h1, if_pos h2])]
        exact ih
      · refine br_t h2 ?_
        rw [nI_1, nI_add, ← es (hr (σ 61) t) (by unfold cF; rw [if_pos h1, if_neg h2]; rfl)]
        exact ih
    · refine br_t h1 ⟨_, ix8 6 t, by omega, ?_⟩
      rw [e2]
      by_cases h2 : σ 61 (1 + 9 * t + 7) = nI w
      · refine br_f (not_not_intro h2) ?_
        rw [nI_1, nI_1, ← es 1 (by unfold cF; rw [if_neg h1, if_pos h2])]
        exact ih
      · refine br_t h2 ?_
        have := es 0 (by unfold cF; rw [if_neg h1, if_neg h2])
        rw [Nat.add_zero] at this
        rw [this] at ih
        rw [nI_1]
        exact ih
theorem c_load {S : Nat × (Nat → Int32)} {d n w : Nat} {σ : Mem} {Q : MQ1} (hR : RI (σ 61) n) (hC : CR (σ 2) (σ 61) n) (hw : w < 6) (h : Q [.inl (nI (ldN (σ 61) n w))] σ) : Ec S (d + 3) 30 [.inr (some 3), .inl (nI w)] σ Q := by
  refine Ec_of rfl (g_30_0 ?_)
  rw [snC hC hw]
  by_cases hs : σ 61 (79 + w) = 1
  · refine br_f (not_not_intro hs) (cl_loop (z := 0) hR hC ?_ n 0 (by omega))
    unfold ldN at h
    rw [cS_0 hs n] at h
    exact h
  · refine br_t hs (c_strands hR hC (g_31_10 (g_30_3 (cl_loop (z := sumN (stn (σ 61)) n) hR hC ?_ n 0 (by omega)))))
    unfold ldN at h
    rw [cS_1 hs n] at h
    exact h
theorem ml_loop {S : Nat × (Nat → Int32)} {d n w : Nat} {σ : Mem} {Q : MQ1} (hR : RI (σ 61) n) (hw : w < 6) (h : Q [.inl (nI (ldN (σ 61) n w))] σ) : ∀ (q t : Nat), t + q = n → Ev S (d + 2) 149 4 [some (.inr (some 60)), some (.inl (nI w)), some (.inl (nI (ldN (σ 61) t w))), some (.inl (nI t))] [] σ Q
  | 0, t, ht => by
    have : t = n := by omega
    subst this
    refine g_149_4 ?_
    rw [hR.2.1]
    exact br_t (Int32.le_refl _) h
  | q + 1, t, ht => by
    have hn8 := hR.1
    have ih := ml_loop (S := S) (d := d) hR hw h q (t + 1) (by omega)
    have e1 := (hr_ok hR (show t < n by omega)).1
    have es : ldN (σ 61) (t + 1) w = ldN (σ 61) t w + (cS (σ 61) w t + cF (σ 61) w t) := by
      show (sumN _ t + cS (σ 61) w t) + (sumN _ t + cF (σ 61) w t) = (sumN _ t + sumN _ t) + _
      omega
    refine g_149_4 ?_
    rw [hR.2.1]
    refine br_f (nI_ge (by omega) (by omega)) ⟨_, ix90 t, by omega, ?_⟩
    by_cases hs : σ 61 (1 + 9 * t) = 2
    · have hc0 : cF (σ 61) w t = 0 := (cF_st (w := w) hR (by omega) hs).resolve_right (by omega)
      refine br_f (not_not_intro hs) ⟨_, ixp 79 w, by omega, ?_⟩
      by_cases hw1 : σ 61 (79 + w) = 1
      · refine br_f (not_not_intro hw1) ?_
        have : cS (σ 61) w t = 0 := by unfold cS; rw [if_pos hw1]
        rw [nI_1, show (0 : Int32) = nI 0 from rfl, nI_add, show ldN (σ 61) t w + 0 = ldN (σ 61) (t + 1) w by rw [es, hc0, this]]
        exact ih
      · refine br_t hw1 ?_
        have : cS (σ 61) w t = 1 := by unfold cS stn; rw [if_neg hw1, if_pos hs]
        rw [nI_1, nI_1, show ldN (σ 61) t w + 1 = ldN (σ 61) (t + 1) w by rw [es, hc0, this]]
        exact ih
    · have hc0 : cS (σ 61) w t = 0 := by
        unfold cS stn
        rw [if_neg hs]
        split <;> rfl
      refine br_t hs ⟨_, ix9 t 6, by omega, ?_⟩
      by_cases h1 : σ 61 (1 + 9 * t + 6) = nI w
      · refine br_f (not_not_intro h1) ⟨_, ix9 t 1, by omega, _, ix9 t 7, by omega, ?_⟩
        rw [e1]
        by_cases h2 : σ 61 (1 + 9 * t + 7) = nI w
        · refine br_f (not_not_intro h2) ?_
          rw [nI_1, nI_add, nI_1, show ldN (σ 61) t w + hr (σ 61) t + 1 = ldN (σ 61) (t + 1) w by rw [es, hc0]; unfold cF; rw [if_pos h1, if_pos h2]; omega]
          exact ih
        · refine br_t h2 ?_
          rw [nI_1, nI_add, show (0 : Int32) = nI 0 from rfl, nI_add, show ldN (σ 61) t w + hr (σ 61) t + 0 = ldN (σ 61) (t + 1) w by rw [es, hc0]; unfold cF; rw [if_pos h1, if_neg h2]; omega]
          exact ih
      · refine br_t h1 ⟨_, ix9 t 7, by omega, ?_⟩
        by_cases h2 : σ 61 (1 + 9 * t + 7) = nI w
        · refine br_f (not_not_intro h2) ?_
          rw [nI_1, show (0 : Int32) = nI 0 from rfl, nI_add, nI_1, show ldN (σ 61) t w + 0 + 1 = ldN (σ 61) (t + 1) w by rw [es, hc0]; unfold cF; rw [if_neg h1, if_pos h2]]
          exact ih
        · refine br_t h2 ?_
          rw [nI_1, show (0 : Int32) = nI 0 from rfl, nI_add, nI_add, show ldN (σ 61) t w + 0 + 0 = ldN (σ 61) (t + 1) w by rw [es, hc0]; unfold cF; rw [if_neg h1, if_neg h2]]
          exact ih
theorem m_load {S : Nat × (Nat → Int32)} {d n w : Nat} {σ : Mem} {Q : MQ1} (hR : RI (σ 61) n) (hw : w < 6) (h : Q [.inl (nI (ldN (σ 61) n w))] σ) : Ec S (d + 2) 149 [.inr (some 60), .inl (nI w)] σ Q := Ec_of rfl (g_149_0 (ml_loop hR hw h n 0 (by omega)))
theorem L_load {S : Nat × (Nat → Int32)} {d : Nat} {σ : Mem} {x1 : Int32} (hG : GI σ) : LK S (d + 4) 92 (d + 4) 153 [.inl x1] σ := by
  have hG' := hG
  obtain ⟨⟨n, hR, hC⟩, -, -, -⟩ := hG'
  refine Ec_of rfl (g_92_0 ?_)
  rcases ixc x1 (n := 6) (by decide) with c | ⟨c0, c1, c2⟩ | ⟨w, hw, rfl, c0, c1, c2⟩
  · exact br_t c (Ec_of rfl (g_153_0 (br_t c (fin_f hG))))
  · exact br_f c0 (br_f c2 (Ec_of rfl (g_153_0 (br_f c0 (br_t (Int32.lt_of_lt_of_le (by decide) c1) (fin_f hG))))))
  · have c5 : ¬ (5 : Int32) < nI w := nI_nlt (a := 5) (by omega) (by decide)
    exact br_f c0 (br_t c1 (c_load hR hC hw (g_92_11 (Ec_of rfl (g_153_0 (br_f c0 (br_f c5 (m_load hR hw (g_153_6 (fin_s hG))))))))))
theorem ce_loop {S : Nat × (Nat → Int32)} {d n : Nat} {σ : Mem} {Q : MQ1} (hR : RI (σ 61) n) (hC : CR (σ 2) (σ 61) n) (h : Q [.inl (nI (evN (σ 61) n))] σ) : ∀ (q w : Nat) (o3 : Option MV), w + q = 6 → Ev S (d + 4) 93 4 [some (.inr (some 0)), some (.inl (nI (sumN (fun w => ldN (σ 61) n w * ldN (σ 61) n w) w))), some (.inl (nI w)), o3] [] σ Q
  | 0, w, o3, hw => by
    have : w = 6 := by omega
    subst this
    exact g_93_4 (br_t (by decide) h)
  | q + 1, w, o3, hw => by
    refine g_93_4 (br_f (nI_ge (b := 6) (by omega) (by decide)) (c_load hR hC (by omega) (g_93_11 ?_)))
    rw [pk_mul, nI_add, nI_1]
    exact ce_loop hR hC h q (w + 1) _ (by omega)
theorem me_loop {S : Nat × (Nat → Int32)} {d n : Nat} {σ : Mem} {Q : MQ1} (hR : RI (σ 61) n) (h : Q [.inl (nI (evN (σ 61) n))] σ) : ∀ (q w : Nat), w + q = 6 → Ev S (d + 3) 154 4 [some (.inr (some 60)), some (.inl (nI (sumN (fun w => ldN (σ 61) n w * ldN (σ 61) n w) w))), some (.inl (nI w))] [] σ Q
  | 0, w, hw => by
    have : w = 6 := by omega
    subst this
    exact g_154_4 (br_t (by decide) h)
  | q + 1, w, hw => by
    refine g_154_4 (br_f (nI_ge (b := 6) (by omega) (by decide)) (m_load hR (by omega) (g_154_11 (m_load hR (by omega) (g_154_14 ?_)))))
    rw [pk_mul, nI_add, nI_1]
    exact me_loop hR h q (w + 1) (by omega)
theorem m_even {S : Nat × (Nat → Int32)} {d n : Nat} {σ : Mem} {Q : MQ1} (hR : RI (σ 61) n) (h : Q [.inl (nI (evN (σ 61) n))] σ) : Ec S (d + 3) 154 [.inr (some 60)] σ Q := Ec_of rfl (g_154_0 (me_loop hR h 6 0 (by omega)))
theorem L_even {S : Nat × (Nat → Int32)} {d : Nat} {σ : Mem} (hG : GI σ) : LK S (d + 4) 93 (d + 4) 155 [] σ := by
  have hG' := hG
  obtain ⟨⟨n, hR, hC⟩, -, -, -⟩ := hG'
  exact Ec_of rfl (g_93_0 (ce_loop hR hC (Ec_of rfl (g_155_0 (m_even hR (g_155_2 (fin_s hG))))) 6 0 _ (by omega)))
