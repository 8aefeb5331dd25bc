theorem up_row {σ : Mem} {a j : Nat} {v : Int32} : up σ a j v a = upd (σ a) j v := by
  funext i
  rw [up_at]
  rfl
theorem upd_s {f : Nat → Int32} {k : Nat} {v : Int32} : upd f k v k = v := pk_us
theorem upd_n {f : Nat → Int32} {k j : Nat} {v : Int32} (h : j ≠ k) : upd f k v j = f j := pk_un h
theorem fm_inj : ∀ k, k < 9 → ∀ q, q < 9 → fm k = fm q → k = q := by decide
theorem CR_set {c r : Nat → Int32} {n t k : Nat} {v : Int32} (hn : n ≤ 8) (h : CR c r n) (ht : t < n) (hk : k < 9) : CR (upd c (8 * k + t) v) (upd r (1 + 9 * t + fm k) v) n := by
  have hf := fm_lt hk
  obtain ⟨h1, h2, h3, ⟨q, h4, h5, h6⟩, h7⟩ := h
  refine ⟨by rw [upd_n (by omega)]; exact h1, fun k' hk' t' ht' => ?_, fun w hw => by rw [upd_n (by omega), upd_n (by omega)]; exact h3 w hw, ⟨q, h4, by rw [upd_n (by omega)]; exact h5, fun w hw => by rw [upd_n (by omega)]; exact h6 w hw⟩, by rw [upd_n (by omega), upd_n (by omega)]; exact h7⟩
  have hf' := fm_lt hk'
  by_cases e : k' = k ∧ t' = t
  · obtain ⟨rfl, rfl⟩ := e
    rw [upd_s, upd_s]
  · rw [upd_n (by omega), upd_n (fun q => e ?_)]
    · exact h2 k' hk' t' ht'
    · have e1 : t' = t := by omega
      subst e1
      exact ⟨fm_inj _ hk' _ hk (by omega), rfl⟩
theorem RI_set {r : Nat → Int32} {n t f : Nat} {v : Int32} (h : RI r n) (ht : t < n) (hf : f < 9) (hT : TI (upd r (1 + 9 * t + f) v) n t) : RI (upd r (1 + 9 * t + f) v) n := by
  obtain ⟨h1, h2, h3, h4, h5, h6⟩ := h
  refine ⟨h1, by rw [upd_n (by omega)]; exact h2, fun t' ht' => ?_, fun w hw => by rw [upd_n (by omega)]; exact h4 w hw, fun w hw => by rw [upd_n (by omega)]; exact h5 w hw, by rw [upd_n (by omega)]; exact h6⟩
  by_cases e : t' = t
  · subst e
    exact hT
  · have := h3 t' ht'
    unfold TI at this ⊢
    rw [upd_n (show 1 + 9 * t' ≠ 1 + 9 * t + f by omega), upd_n (show 1 + 9 * t' + 1 ≠ 1 + 9 * t + f by omega), upd_n (show 1 + 9 * t' + 2 ≠ 1 + 9 * t + f by omega), upd_n (show 1 + 9 * t' + 3 ≠ 1 + 9 * t + f by omega), upd_n (show 1 + 9 * t' + 4 ≠ 1 + 9 * t + f by omega), upd_n (show 1 + 9 * t' + 5 ≠ 1 + 9 * t + f by omega), upd_n (show 1 + 9 * t' + 6 ≠ 1 + 9 * t + f by omega), upd_n (show 1 + 9 * t' + 7 ≠ 1 + 9 * t + f by omega), upd_n (show 1 + 9 * t' + 8 ≠ 1 + 9 * t + f by omega)]
    exact this
theorem fin_chg {σ σk σa : Mem} {n m nx t k : Nat} {v : Int32} (hR : RI (σ 61) n) (hC : CR (σ 2) (σ 61) n) (hm : m ≤ 25) (hnx : nx < 25) (hold : ∀ j, j < m → GR (σ (26 + (nx + 25 - m + j) % 25)) (fun k => σ 62 (86 * j + k))) (hS : GS σ) (hF : σ 0 5 = σ 60 6) (ht : t < n) (hk : k < 9) (hT : TI (upd (σ 61) (1 + 9 * t + fm k) v) n t) (hK : KP σ σk m nx) (hA : AP (up σk 2 (8 * k + t) v) σa m) :
    σk 2 = σ 2 ∧ σa 61 = σ 61 ∧ GI (up σa 61 (1 + 9 * t + fm k) v) := by
  have k2 : σk 2 = σ 2 := hK.1 2 (by decide) (by omega)
  have a61 : σa 61 = σ 61 := by rw [hA.1 61 (by decide) (by decide), up_ne (by decide), hK.1 61 (by decide) (by omega)]
  refine ⟨k2, a61, GI_act ⟨n, hR, hC⟩ hm hnx hold hS hF hK (fun a ha => up_ne ha) hA (fun a ha => up_ne ha) ⟨n, ?_, ?_⟩⟩
  · rw [up_row, a61]
    exact RI_set hR ht (fm_lt hk) hT
  · rw [up_row, a61, up_ne (by decide), hA.1 2 (by decide) (by decide), up_row, k2]
    exact CR_set hR.1 hC ht hk
theorem c_change {S : Nat × (Nat → Int32)} {d m nx t k : Nat} {σ : Mem} {v : Int32} {Q : MQ1} (h1 : σ 24 1 = nI nx) (hnx : nx < 25) (h2 : σ 24 2 = nI m) (hm : m ≤ 25) (ht : t < 8) (hk : k < 9) (h : ∀ σk, KP σ σk m nx → Q [.inl (σk 2 (8 * k + t))] (up σk 2 (8 * k + t) v)) : Ec S (d + 3) 112 [.inr (some 0), .inl (nI k), .inl (nI t), .inl v] σ Q := by
  refine Ec_of rfl (g_112_0 (c_keep h1 hnx h2 hm (fun σk hK => ?_)))
  exact g_112_5 ⟨_, ix8 k t, by omega, _, ix8 k t, by omega, h σk hK⟩
/-- the reference's change, behind its tests -/
theorem m_change {S : Nat × (Nat → Int32)} {d m t f : Nat} {σ : Mem} {v : Int32} {o : Option MV} {Q : MQ1} (h2 : σ 60 2 = nI m) (hm : m ≤ 25) (ht : t < 8) (hf : f < 9) (h : ∀ σa, AP σ σa m → Q [.inl (σa 61 (1 + 9 * t + f))] (up σa 61 (1 + 9 * t + f) v)) : Ec S d 126 [.inr (some 60)] σ (fun rv σ' => Ev S (d + 1) 132 2 [some (.inr (some 60)), some (.inl (nI t)), some (.inl (nI f)), some (.inl v), o] (rv ++ []) σ' Q) := by
  refine c_act h2 hm (fun σa hA => ?_)
  exact g_132_2 ⟨_, ix9 t f, by omega, _, ix9 t f, by omega, h σa hA⟩
theorem TI_3 {r : Nat → Int32} {n t q : Nat} (h : TI r n t) (hk : ¬ r (1 + 9 * t) = 2) (hq : q ≤ 9) : TI (upd r (1 + 9 * t + 3) (nI q)) n t := by
  unfold TI at h ⊢
  simp only [upd, Nat.add_left_cancel_iff, Nat.add_right_cancel_iff, Nat.reduceEqDiff, if_true, if_false, Nat.left_eq_add]
  obtain ⟨a0, a1, a2, a3, a4, a5, a6, a7, a8, a9, a10⟩ := h
  exact ⟨a0, a1, a2, ⟨q, hq, rfl⟩, a4, a5, a6, a7, a8, fun z => absurd z hk, a10⟩
theorem L_comes {S : Nat × (Nat → Int32)} {d : Nat} {σ : Mem} {x1 x2 : Int32} (hG : GI σ) : LK S (d + 4) 78 (d + 4) 133 [.inl x1, .inl x2] σ := by
  have hG' := hG
  obtain ⟨⟨n, hR, hC⟩, ⟨m, nx, hm, hnx, h1, h2, h3, hold⟩, hS, hF⟩ := hG'
  have hn8 := hR.1
  refine Ec_of rfl (g_78_0 ?_)
  rw [hC.1]
  rcases ixc x1 (n := n) (by omega) with c | ⟨c0, c1, c2⟩ | ⟨t, ht, rfl, c0, c1, c2⟩
  · exact br_t c (Ec_of rfl (g_133_0 (br_t c (fin_f hG))))
  · exact br_f c0 (br_f c2 (Ec_of rfl (g_133_0 (br_f c0 (br_t (by rw [e61f, hR.2.1]; exact c1) (fin_f hG))))))
  · have m1 : ¬ up σ 0 5 (σ 0 5 + 1) 61 0 ≤ nI t := by rw [e61f, hR.2.1]; exact c2
    refine br_f c0 (br_t c1 ?_)
    rcases lec x2 (n := 9) (by decide) with b | ⟨b0, b1, b2⟩ | ⟨k, hk, rfl, b0, b1, b2⟩
    · exact br_t b (Ec_of rfl (g_133_0 (br_f c0 (br_f m1 (br_t b (fin_f hG))))))
    · exact br_f b0 (br_f b2 (Ec_of rfl (g_133_0 (br_f c0 (br_f m1 (br_f b0 (br_t b1 (fin_f hG))))))))
    · refine br_f b0 (br_t b1 ⟨t, ix00 t, by omega, ?_⟩)
      rw [(cf hC ht).1]
      by_cases a1 : σ 61 (1 + 9 * t) = 2
      · exact br_f (not_not_intro a1) (Ec_of rfl (g_133_0 (br_f c0 (br_f m1 (br_f b0 (br_f b2 ⟨_, ix90 t, by omega, br_f (not_not_intro (by rw [e61f]; exact a1)) (fin_f hG)⟩))))))
      · refine br_t a1 (c_change (k := 3) h1 hnx h2 hm (by omega) (by decide) (fun σk hK => g_78_27 ?_))
        have k61 : up σk 2 (8 * 3 + t) (nI k) 61 = σ 61 := by rw [up_ne (by decide), hK.1 61 (by decide) (by omega)]
        have k60 : up σk 2 (8 * 3 + t) (nI k) 60 2 = nI m := by rw [up_ne (by decide), hK.1 60 (by decide) (by omega)]; exact h3
        refine Ec_of rfl (g_133_0 (br_f c0 (br_f (by rw [k61, hR.2.1]; exact c2) (br_f b0 (br_f b2 ⟨_, ix90 t, by omega, br_t (by rw [k61]; exact a1) (m_change (f := 3) k60 hm (by omega) (by decide) (fun σa hA => g_133_26 ?_))⟩)))))
        obtain ⟨e1, e2, e3⟩ := fin_chg (k := 3) hR hC hm hnx hold hS hF ht (by decide) (TI_3 (hR.2.2.1 t ht) a1 hk) hK hA
        refine ⟨_, rfl, ?_, e3⟩
        rw [e1, e2, hC.2.1 3 (by decide) t ht]
        rfl
