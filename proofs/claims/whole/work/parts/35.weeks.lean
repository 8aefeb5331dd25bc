theorem RI_room {r : Nat → Int32} {n w q : Nat} (h : RI r n) (hw : w < 6) (hq : q ≤ 40) : RI (upd r (73 + w) (nI q)) n := by
  obtain ⟨h1, h2, h3, h4, h5, h6⟩ := h
  refine ⟨h1, by rw [upd_n (by omega)]; exact h2, fun t ht => ?_, fun w' hw' => ?_, fun w' hw' => by rw [upd_n (by omega)]; exact h5 w' hw', by rw [upd_n (by omega)]; exact h6⟩
  · have := h3 t ht
    unfold TI at this ⊢
    rw [upd_n (show 1 + 9 * t ≠ 73 + w by omega), upd_n (show 1 + 9 * t + 1 ≠ 73 + w by omega), upd_n (show 1 + 9 * t + 2 ≠ 73 + w by omega), upd_n (show 1 + 9 * t + 3 ≠ 73 + w by omega), upd_n (show 1 + 9 * t + 4 ≠ 73 + w by omega), upd_n (show 1 + 9 * t + 5 ≠ 73 + w by omega), upd_n (show 1 + 9 * t + 6 ≠ 73 + w by omega), upd_n (show 1 + 9 * t + 7 ≠ 73 + w by omega), upd_n (show 1 + 9 * t + 8 ≠ 73 + w by omega)]
    exact this
  · by_cases e : w' = w
    · subst e
      exact ⟨q, hq, upd_s⟩
    · rw [upd_n (by omega)]
      exact h4 w' hw'
theorem RI_hi {r : Nat → Int32} {n k : Nat} {v : Int32} (h : RI r n) (hk : 79 ≤ k) (h5' : ∀ w, w < 6 → upd r k v (79 + w) = 0 ∨ upd r k v (79 + w) = 1) (h6' : ∃ q, q ≤ 6 ∧ upd r k v 85 = nI q) : RI (upd r k v) n := by
  obtain ⟨h1, h2, h3, h4, h5, h6⟩ := h
  refine ⟨h1, by rw [upd_n (by omega)]; exact h2, fun t ht => ?_, fun w' hw' => by rw [upd_n (by omega)]; exact h4 w' hw', h5', h6'⟩
  have := h3 t ht
  unfold TI at this ⊢
  rw [upd_n (show 1 + 9 * t ≠ k by omega), upd_n (show 1 + 9 * t + 1 ≠ k by omega), upd_n (show 1 + 9 * t + 2 ≠ k by omega), upd_n (show 1 + 9 * t + 3 ≠ k by omega), upd_n (show 1 + 9 * t + 4 ≠ k by omega), upd_n (show 1 + 9 * t + 5 ≠ k by omega), upd_n (show 1 + 9 * t + 6 ≠ k by omega), upd_n (show 1 + 9 * t + 7 ≠ k by omega), upd_n (show 1 + 9 * t + 8 ≠ k by omega)]
  exact this
theorem CR_room {c r : Nat → Int32} {n w : Nat} {v : Int32} (hn : n ≤ 8) (h : CR c r n) (hw : w < 6) : CR (upd c (72 + w) v) (upd r (73 + w) v) n := by
  obtain ⟨h1, h2, h3, ⟨q, h4, h5, h6⟩, h7⟩ := h
  refine ⟨by rw [upd_n (by omega)]; exact h1, fun k' hk' t' ht' => ?_, fun w' hw' => ?_, ⟨q, h4, by rw [upd_n (by omega)]; exact h5, fun w hw => by rw [upd_n (by omega)]; exact h6 w hw⟩, by rw [upd_n (by omega), upd_n (by omega)]; exact h7⟩
  · have hf' := fm_lt hk'
    rw [upd_n (by omega), upd_n (by omega)]
    exact h2 k' hk' t' ht'
  · by_cases e : w' = w
    · subst e
      rw [upd_s, upd_s]
    · rw [upd_n (by omega), upd_n (by omega)]
      exact h3 w' hw'
theorem CR_snow {c r : Nat → Int32} {n w s' : Nat} {v : Int32} (hn : n ≤ 8) (h : CR c r n) (hw : w < 6) (hs : s' < 64) (hb : ∀ i, i < 6 → (s'.testBit i = true ↔ upd r (79 + w) v (79 + i) = 1)) : CR (upd c 78 (nI s')) (upd r (79 + w) v) n := by
  obtain ⟨h1, h2, h3, ⟨q, h4, h5, h6⟩, h7⟩ := h
  refine ⟨by rw [upd_n (by omega)]; exact h1, fun k' hk' t' ht' => ?_, fun w' hw' => by rw [upd_n (by omega), upd_n (by omega)]; exact h3 w' hw', ⟨s', hs, upd_s, hb⟩, by rw [upd_n (by omega), upd_n (by omega)]; exact h7⟩
  have hf' := fm_lt hk'
  rw [upd_n (by omega), upd_n (by omega)]
  exact h2 k' hk' t' ht'
theorem CR_test {c r : Nat → Int32} {n : Nat} {v : Int32} (hn : n ≤ 8) (h : CR c r n) : CR (upd c 79 v) (upd r 85 v) n := by
  obtain ⟨h1, h2, h3, ⟨q, h4, h5, h6⟩, h7⟩ := h
  refine ⟨by rw [upd_n (by omega)]; exact h1, fun k' hk' t' ht' => ?_, fun w' hw' => by rw [upd_n (by omega), upd_n (by omega)]; exact h3 w' hw', ⟨q, h4, by rw [upd_n (by omega)]; exact h5, fun w hw => by rw [upd_n (by omega)]; exact h6 w hw⟩, by rw [upd_s, upd_s]⟩
  have hf' := fm_lt hk'
  rw [upd_n (by omega), upd_n (by omega)]
  exact h2 k' hk' t' ht'
/-- the end of an act that writes a cell of either row -/
theorem fin_row {σ σk σa : Mem} {n m nx jc jm : Nat} {vc vm : Int32} (hG : GI σ) (hm : m ≤ 25) (hnx : nx < 25) (hold : ∀ j, j < m → GR (σ (26 + (nx + 25 - m + j) % 25)) (fun k => σ 62 (86 * j + k))) (hR2 : RI (upd (σ 61) jm vm) n) (hC2 : CR (upd (σ 2) jc vc) (upd (σ 61) jm vm) n) (hK : KP σ σk m nx) (hA : AP (up σk 2 jc vc) σa m) : GI (up σa 61 jm vm) := by
  obtain ⟨hR, -, hS, hF⟩ := hG
  have k2 : σk 2 = σ 2 := hK.1 2 (by decide) (by omega)
  have a61 : σa 61 = σ 61 := by rw [hA.1 61 (by decide) (by decide), up_ne (by decide), hK.1 61 (by decide) (by omega)]
  refine GI_act hR hm hnx hold hS hF hK (fun a ha => up_ne ha) hA (fun a ha => up_ne ha) ⟨n, ?_, ?_⟩
  · rw [up_row, a61]
    exact hR2
  · rw [up_row, a61, up_ne (by decide), hA.1 2 (by decide) (by decide), up_row, k2]
    exact hC2
theorem ixp (a w : Nat) : nI a + nI w = nI (a + w) := nI_add a w
theorem L_room {S : Nat × (Nat → Int32)} {d : Nat} {σ : Mem} {x1 x2 : Int32} (hG : GI σ) : LK S (d + 3) 82 (d + 3) 137 [.inl x1, .inl x2] σ := by
  have hG' := hG
  obtain ⟨⟨n, hR, hC⟩, ⟨m, nx, hm, hnx, h1, h2, h3, hold⟩, hS, hF⟩ := hG'
  have hn8 := hR.1
  refine Ec_of rfl (g_82_0 ?_)
  rcases ixc x1 (n := 6) (by decide) with c | ⟨c0, c1, c2⟩ | ⟨w, hw, rfl, c0, c1, c2⟩
  · exact br_t c (Ec_of rfl (g_137_0 (br_t c (fin_f hG))))
  · exact br_f c0 (br_f c2 (Ec_of rfl (g_137_0 (br_f c0 (br_t (Int32.lt_of_lt_of_le (by decide) c1) (fin_f hG))))))
  · have c5 : ¬ (5 : Int32) < nI w := nI_nlt (a := 5) (by omega) (by decide)
    refine br_f c0 (br_t c1 ?_)
    rcases lec x2 (n := 40) (by decide) with b | ⟨b0, b1, b2⟩ | ⟨k, hk, rfl, b0, b1, b2⟩
    · exact br_t b (Ec_of rfl (g_137_0 (br_f c0 (br_f c5 (br_t b (fin_f hG))))))
    · exact br_f b0 (br_f b2 (Ec_of rfl (g_137_0 (br_f c0 (br_f c5 (br_f b0 (br_t b1 (fin_f hG))))))))
    · refine br_f b0 (br_t b1 (c_keep h1 hnx h2 hm (fun σk hK => g_82_17 ⟨_, ixp 72 w, by omega, _, ixp 72 w, by omega, ?_⟩)))
      have k61 : up σk 2 (72 + w) (nI k) 61 = σ 61 := by rw [up_ne (by decide), hK.1 61 (by decide) (by omega)]
      have k60 : up σk 2 (72 + w) (nI k) 60 2 = nI m := by rw [up_ne (by decide), hK.1 60 (by decide) (by omega)]; exact h3
      refine Ec_of rfl (g_137_0 (br_f c0 (br_f c5 (br_f b0 (br_f b2 (c_act k60 hm (fun σa hA => g_137_14 ⟨_, ixp 73 w, by omega, _, ixp 73 w, by omega, ?_⟩)))))))
      have a61 : σa 61 = σ 61 := by rw [hA.1 61 (by decide) (by decide), k61]
      refine ⟨_, rfl, ?_, fin_row hG hm hnx hold (RI_room hR hw hk) (CR_room hn8 hC hw) hK hA⟩
      rw [a61, hK.1 2 (by decide) (by omega), hC.2.2.1 w hw]
theorem L_test {S : Nat × (Nat → Int32)} {d : Nat} {σ : Mem} {x1 : Int32} (hG : GI σ) : LK S (d + 3) 84 (d + 3) 139 [.inl x1] σ := by
  have hG' := hG
  obtain ⟨⟨n, hR, hC⟩, ⟨m, nx, hm, hnx, h1, h2, h3, hold⟩, hS, hF⟩ := hG'
  have hn8 := hR.1
  refine Ec_of rfl (g_84_0 ?_)
  rcases lec x1 (n := 6) (by decide) with b | ⟨b0, b1, b2⟩ | ⟨k, hk, rfl, b0, b1, b2⟩
  · exact br_t b (Ec_of rfl (g_139_0 (br_t b (fin_f hG))))
  · exact br_f b0 (br_f b2 (Ec_of rfl (g_139_0 (br_f b0 (br_t b1 (fin_f hG))))))
  · refine br_f b0 (br_t b1 (c_keep h1 hnx h2 hm (fun σk hK => g_84_14 ?_)))
    have k61 : up σk 2 79 (nI k) 61 = σ 61 := by rw [up_ne (by decide), hK.1 61 (by decide) (by omega)]
    have k60 : up σk 2 79 (nI k) 60 2 = nI m := by rw [up_ne (by decide), hK.1 60 (by decide) (by omega)]; exact h3
    refine Ec_of rfl (g_139_0 (br_f b0 (br_f b2 (c_act k60 hm (fun σa hA => g_139_11 ?_)))))
    have a61 : σa 61 = σ 61 := by rw [hA.1 61 (by decide) (by decide), k61]
    refine ⟨_, rfl, ?_, fin_row hG hm hnx hold (RI_hi hR (by decide) (fun w hw => by rw [upd_n (by omega)]; exact hR.2.2.2.2.1 w hw) ⟨k, hk, upd_s⟩) (CR_test hn8 hC) hK hA⟩
    rw [a61, hK.1 2 (by decide) (by omega), hC.2.2.2.2]
theorem clr8 : ∀ s, s < 256 → ∀ w, w < 8 → nI s &&& (((1 : Int32) <<< (nI w &&& 31)) ^^^ (-1)) = nI (s &&& (255 - 2 ^ w)) := by decide +kernel
theorem clrb : ∀ w, w < 8 → ∀ i, i < 8 → (255 - 2 ^ w).testBit i = decide (i ≠ w) := by decide +kernel
theorem set8 {s w : Nat} (hw : w < 8) : nI s ||| ((1 : Int32) <<< (nI w &&& 31)) = nI (s ||| 2 ^ w) := by
  have e : (1 : Int32) <<< (nI w &&& 31) = nI (2 ^ w) := by
    rw [show (1 : Int32) = nI 1 from rfl, nI_shl (by omega) (by
      have := Nat.pow_lt_pow_right (a := 2) (by decide) (show w < 32 by omega)
      omega), Nat.one_mul]
  rw [e, nI_or]
theorem or_lt {s w n : Nat} (hs : s < 2 ^ n) (hw : w < n) : s ||| 2 ^ w < 2 ^ n := Nat.or_lt_two_pow hs (Nat.pow_lt_pow_right (by decide) hw)
theorem setb {s w i : Nat} : (s ||| 2 ^ w).testBit i = (s.testBit i || decide (w = i)) := by rw [Nat.testBit_or, Nat.testBit_two_pow]
theorem clr_lt {s w n : Nat} (hs : s < 2 ^ n) : s &&& (255 - 2 ^ w) < 2 ^ n := Nat.lt_of_le_of_lt Nat.and_le_left hs
theorem clrt {s w i : Nat} (hw : w < 8) (hi : i < 8) : (s &&& (255 - 2 ^ w)).testBit i = (s.testBit i && decide (i ≠ w)) := by rw [Nat.testBit_and, clrb w hw i hi]
theorem L_snow {S : Nat × (Nat → Int32)} {d : Nat} {σ : Mem} {x1 x2 : Int32} (hG : GI σ) (hx : x2 = 0 ∨ x2 = 1) : LK S (d + 3) 83 (d + 3) 138 [.inl x1, .inl x2] σ := by
  have hG' := hG
  obtain ⟨⟨n, hR, hC⟩, ⟨m, nx, hm, hnx, h1, h2, h3, hold⟩, hS, hF⟩ := hG'
  have hn8 := hR.1
  refine Ec_of rfl (g_83_0 ?_)
  rcases ixc x1 (n := 6) (by decide) with c | ⟨c0, c1, c2⟩ | ⟨w, hw, rfl, c0, c1, c2⟩
  · exact br_t c (Ec_of rfl (g_138_0 (br_t c (fin_f hG))))
  · exact br_f c0 (br_f c2 (Ec_of rfl (g_138_0 (br_f c0 (br_t (Int32.lt_of_lt_of_le (by decide) c1) (fin_f hG))))))
  · have c5 : ¬ (5 : Int32) < nI w := nI_nlt (a := 5) (by omega) (by decide)
    refine br_f c0 (br_t c1 (c_keep h1 hnx h2 hm (fun σk hK => g_83_12 ?_)))
    have k2 : σk 2 = σ 2 := hK.1 2 (by decide) (by omega)
    obtain ⟨s, hs, h78, hbit⟩ := hC.2.2.2.1
    rw [k2, h78]
    have hset : ∀ s' : Nat, ∀ v rv : Int32, s' < 64 → (∀ i, i < 6 → (s'.testBit i = true ↔ upd (σ 61) (79 + w) v (79 + i) = 1)) → (v = 0 ∨ v = 1) → (∀ σ1, σ1 61 = σ 61 → σ1 60 2 = nI m → ∀ Q : MQ1, (∀ σa, AP σ1 σa m → Q [.inl rv] (up σa 61 (79 + w) v)) → Ec S (d + 3) 138 [.inr (some 60), .inl (nI w), .inl x2] σ1 Q) → Ec S (d + 3) 138 [.inr (some 60), .inl (nI w), .inl x2] (up σk 2 78 (nI s')) (fun rv2 σ2 => ∃ z : Int32, ([.inl rv] : List MV) = [.inl z] ∧ rv2 = [.inl z] ∧ GI σ2) := by
      intro s' v rv hs' hb hv hmod
      refine hmod _ (by rw [up_ne (by decide), hK.1 61 (by decide) (by omega)]) (by rw [up_ne (by decide), hK.1 60 (by decide) (by omega)]; exact h3) _ (fun σa hA => ⟨_, rfl, rfl, fin_row hG hm hnx hold (RI_hi hR (by omega) (fun i hi => ?_) (by rw [upd_n (by omega)]; exact hR.2.2.2.2.2)) (CR_snow hn8 hC hw hs' hb) hK hA⟩)
      by_cases e : i = w
      · subst e
        rw [upd_s]
        exact hv
      · rw [upd_n (by omega)]
        exact hR.2.2.2.2.1 i hi
    have hbon : ∀ i, i < 6 → ((s ||| 2 ^ w).testBit i = true ↔ upd (σ 61) (79 + w) 1 (79 + i) = 1) := fun i hi => by
      rw [setb]
      by_cases e : i = w
      · subst e
        simp [upd_s]
      · rw [upd_n (by omega), decide_eq_false (fun q => e q.symm), Bool.or_false]
        exact hbit i hi
    have hboff : ∀ i, i < 6 → ((s &&& (255 - 2 ^ w)).testBit i = true ↔ upd (σ 61) (79 + w) 0 (79 + i) = 1) := fun i hi => by
      rw [clrt (by omega) (by omega)]
      by_cases e : i = w
      · subst e
        simp [upd_s]
      · rw [upd_n (by omega), decide_eq_true e, Bool.and_true]
        exact hbit i hi
    have hmod : ∀ (σ1 : Mem) (Q : MQ1), σ1 61 = σ 61 → σ1 60 2 = nI m → (∀ σa, AP σ1 σa m → Q [.inl (if x2 = (if σ 61 (79 + w) = 1 then 1 else 0) then 0 else 1)] (up σa 61 (79 + w) x2)) → Ec S (d + 3) 138 [.inr (some 60), .inl (nI w), .inl x2] σ1 Q := by
      intro σ1 Q e61 e60 hq
      refine Ec_of rfl (g_138_0 (br_f c0 (br_f c5 (c_act e60 hm (fun σa hA => g_138_9 ⟨_, ixp 79 w, by omega, ?_⟩)))))
      have hq' := hq σa hA
      have a61 : σa 61 = σ 61 := by rw [hA.1 61 (by decide) (by decide), e61]
      rw [a61]
      by_cases a1 : σ 61 (79 + w) = 1
      · rw [if_pos a1] at hq'
        refine br_f (not_not_intro a1) ?_
        rcases hx with rfl | rfl
        · exact br_t rfl ⟨_, ixp 79 w, by omega, br_t (by decide) hq'⟩
        · exact br_f (by decide) ⟨_, ixp 79 w, by omega, br_f (by decide) hq'⟩
      · rw [if_neg a1] at hq'
        refine br_t a1 ?_
        rcases hx with rfl | rfl
        · exact br_t rfl ⟨_, ixp 79 w, by omega, br_f (by decide) hq'⟩
        · exact br_f (by decide) ⟨_, ixp 79 w, by omega, br_t (by decide) hq'⟩
    have hb := hbit w hw
    rw [clr8 s (by omega) w (by omega), set8 (by omega)]
    by_cases a1 : σ 61 (79 + w) = 1
    · have t1 : ¬ ((nI s >>> (nI w &&& 31)) &&& 1) = 0 := fun q => by
        rw [bit_0 (by omega) (by omega)] at q
        rw [hb.mpr a1] at q
        cases q
      refine br_f t1 ?_
      rcases hx with rfl | rfl
      · exact br_f (by decide) (br_t rfl (hset _ 0 1 (clr_lt (n := 6) hs) hboff (Or.inl rfl) (fun σ1 e1 e2 Q hq => hmod σ1 Q e1 e2 (fun σa hA => by rw [if_pos a1]; exact hq σa hA))))
      · exact br_t rfl (br_f (by decide) (hset _ 1 0 (or_lt (n := 6) hs hw) hbon (Or.inr rfl) (fun σ1 e1 e2 Q hq => hmod σ1 Q e1 e2 (fun σa hA => by rw [if_pos a1]; exact hq σa hA))))
    · have t1 : ((nI s >>> (nI w &&& 31)) &&& 1) = 0 := by
        rw [bit_0 (by omega) (by omega)]
        cases hq : s.testBit w with
        | false => rfl
        | true => exact absurd (hb.mp hq) a1
      refine br_t t1 ?_
      rcases hx with rfl | rfl
      · exact br_t rfl (br_t rfl (hset _ 0 0 (clr_lt (n := 6) hs) hboff (Or.inl rfl) (fun σ1 e1 e2 Q hq => hmod σ1 Q e1 e2 (fun σa hA => by rw [if_neg a1]; exact hq σa hA))))
      · exact br_f (by decide) (br_f (by decide) (hset _ 1 1 (or_lt (n := 6) hs hw) hbon (Or.inr rfl) (fun σ1 e1 e2 Q hq => hmod σ1 Q e1 e2 (fun σa hA => by rw [if_neg a1]; exact hq σa hA))))
