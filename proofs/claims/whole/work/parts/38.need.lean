theorem TI_2 {r : Nat → Int32} {n t q : Nat} (h : TI r n t) (hq : q < 2 ^ n) (hs : q.testBit t = false) : TI (upd r (1 + 9 * t + 2) (nI q)) n t := by
  unfold TI at h ⊢
  simp only [upd, Nat.add_left_cancel_iff, Nat.add_right_cancel_iff, Nat.reduceEqDiff, if_true, if_false, Nat.left_eq_add]
  obtain ⟨a0, a1, a2, a3, a4, a5, a6, a7, a8, a9, a10⟩ := h
  exact ⟨a0, a1, ⟨q, ⟨hq, hs⟩, rfl⟩, a3, a4, a5, a6, a7, a8, a9, a10⟩
theorem sl1 {w : Nat} (hw : w < 8) : (1 : Int32) <<< (nI w &&& 31) = nI (2 ^ w) := by
  rw [show (1 : Int32) = nI 1 from rfl, nI_shl (by omega) (by
    have := Nat.pow_lt_pow_right (a := 2) (by decide) (show w < 32 by omega)
    omega), Nat.one_mul]
theorem clr_same : ∀ s, s < 256 → ∀ w, w < 8 → (s = s &&& (255 - 2 ^ w) ↔ s.testBit w = false) := by decide +kernel
theorem set_same : ∀ s, s < 256 → ∀ w, w < 8 → (s = s ||| 2 ^ w ↔ s.testBit w = true) := by decide +kernel
theorem L_need {S : Nat × (Nat → Int32)} {d : Nat} {σ : Mem} {x1 x2 x3 : Int32} (hG : GI σ) (hx : x3 = 0 ∨ x3 = 1) : LK S (d + 4) 77 (d + 4) 131 [.inl x1, .inl x2, .inl x3] σ := by
  have hG' := hG
  obtain ⟨⟨n, hR, hC⟩, ⟨m, nx, hm, hnx, h1, h2, h3, hold⟩, hS, hF⟩ := hG'
  have hn8 := hR.1
  refine Ec_of rfl (g_77_0 ?_)
  rw [hC.1]
  rcases ixc x1 (n := n) (by omega) with c | ⟨c0, c1, c2⟩ | ⟨t, ht, rfl, c0, c1, c2⟩
  · exact br_t c (Ec_of rfl (g_131_0 (br_t c (fin_f hG))))
  · exact br_f c0 (br_f c2 (Ec_of rfl (g_131_0 (br_f c0 (br_t (by rw [e61f, hR.2.1]; exact c1) (fin_f hG))))))
  have m1 : ¬ up σ 0 5 (σ 0 5 + 1) 61 0 ≤ nI t := by rw [e61f, hR.2.1]; exact c2
  refine br_f c0 (br_t c1 ?_)
  rcases ixc x2 (n := n) (by omega) with b | ⟨b0, b1, b2⟩ | ⟨o, ho, rfl, b0, b1, b2⟩
  · exact br_t b (Ec_of rfl (g_131_0 (br_f c0 (br_f m1 (br_t b (fin_f hG))))))
  · exact br_f b0 (br_f b2 (Ec_of rfl (g_131_0 (br_f c0 (br_f m1 (br_f b0 (br_t (by rw [e61f, hR.2.1]; exact b1) (fin_f hG))))))))
  have mo1 : ¬ up σ 0 5 (σ 0 5 + 1) 61 0 ≤ nI o := by rw [e61f, hR.2.1]; exact b2
  refine br_f b0 (br_t b1 ?_)
  obtain ⟨eN, hN⟩ := nd_ok hR ht
  have hN8 := lt256 hn8 hN
  have fin : ∀ (q : Nat) (σk σa : Mem), q < 2 ^ n → q.testBit t = false → KP σ σk m nx → AP (up σk 2 (8 * 2 + t) (nI q)) σa m → GI (up σa 61 (1 + 9 * t + 2) (nI q)) := fun q σk σa hq hqs hK hA => (fin_chg (k := 2) hR hC hm hnx hold hS hF ht (by decide) (TI_2 (hR.2.2.1 t ht) hq hqs) hK hA).2.2
  have k61 : ∀ (σk : Mem) (v : Int32), KP σ σk m nx → up σk 2 (8 * 2 + t) v 61 = σ 61 := fun σk v hK => by rw [up_ne (by decide), hK.1 61 (by decide) (by omega)]
  have k60 : ∀ (σk : Mem) (v : Int32), KP σ σk m nx → up σk 2 (8 * 2 + t) v 60 2 = nI m := fun σk v hK => by rw [up_ne (by decide), hK.1 60 (by decide) (by omega)]; exact h3
  have kc : ∀ (σk : Mem), KP σ σk m nx → σk 2 (8 * 2 + t) = nI (nd (σ 61) t) := fun σk hK => by rw [hK.1 2 (by decide) (by omega), hC.2.1 2 (by decide) t ht, show fm 2 = 2 from rfl, eN]
  rcases hx with rfl | rfl
  · refine br_t rfl (c_keep h1 hnx h2 hm (fun σk hK => g_77_35 ⟨_, ix8 2 t, by omega, br_t rfl ⟨_, ix8 2 t, by omega, ?_⟩⟩))
    rw [kc σk hK, clr8 _ hN8 o (by omega)]
    have hmod : ∀ (v : Int32) (σ1 : Mem), v = (if (nd (σ 61) t).testBit o = true then 1 else 0) → σ1 = up σk 2 (8 * 2 + t) (nI ((nd (σ 61) t) &&& (255 - 2 ^ o))) → Ec S (d + 4) 131 [.inr (some 60), .inl (nI t), .inl (nI o), .inl 0] σ1 (fun rv2 σ2 => ∃ z : Int32, ([.inl v] : List MV) = [.inl z] ∧ rv2 = [.inl z] ∧ GI σ2) := by
      intro v σ1 hv hσ1
      subst hσ1
      have e61 := k61 σk (nI ((nd (σ 61) t) &&& (255 - 2 ^ o))) hK
      refine Ec_of rfl (g_131_0 (br_f c0 (br_f (by rw [e61, hR.2.1]; exact c2) (br_f b0 (br_f (by rw [e61, hR.2.1]; exact b2) (br_t rfl (c_act (k60 _ _ hK) hm (fun σa hA => g_131_32 ⟨_, ix9 t 2, by omega, br_t rfl ⟨_, ix9 t 2, by omega, _, ix9 t 2, by omega, br_t rfl ?_⟩⟩))))))))
      have a61 : σa 61 = σ 61 := by rw [hA.1 61 (by decide) (by decide), e61]
      rw [a61, eN, clr8 _ hN8 o (by omega), bit_0 (by omega) (by omega)]
      have hfin := fin _ σk σa (clr_lt hN) (by rw [Nat.testBit_and, nd_self hR ht]; rfl) hK hA
      cases hb : (nd (σ 61) t).testBit o with
      | true =>
        rw [hb, if_pos rfl] at hv
        exact br_t (by decide) ⟨1, by rw [hv], rfl, hfin⟩
      | false =>
        rw [hb, if_neg (by decide)] at hv
        exact br_f (by decide) ⟨0, by rw [hv], rfl, hfin⟩
    rw [nI_inj (by omega) (by have := clr_lt (w := o) hN; have := lt256 hn8 this; omega), clr_same _ hN8 o (by omega)]
    cases hb : (nd (σ 61) t).testBit o with
    | true => exact br_t (by decide) (hmod 1 _ (by rw [hb, if_pos rfl]) rfl)
    | false => exact br_f (by decide) (hmod 0 _ (by rw [hb, if_neg (by decide)]) rfl)
  · refine br_f (by decide) ?_
    by_cases hto : nI t = nI o
    · exact br_t hto (Ec_of rfl (g_131_0 (br_f c0 (br_f m1 (br_f b0 (br_f mo1 (br_f (by decide) (br_t hto (fin_f hG)))))))))
    refine br_f hto ?_
    rw [sl1 (by omega)]
    refine cc_allNeeds hR hC (Nat.pow_lt_pow_right (by decide) ho) (fun C hCl => g_77_23 ?_)
    have hC8 := lt256 hn8 hCl.1
    have mall : ∀ (σ1 : Mem) (Q : MQ1), σ1 61 = σ 61 → Q [.inl (nI C)] σ1 → Ec S (d + 3) 130 [.inr (some 60), .inl (nI o)] σ1 Q := fun σ1 Q e hQ => cm_allNeeds (by rw [e]; exact hR) ho (fun C' hC' => by
      rw [e] at hC'
      rw [isCl_one hC' hCl]
      exact hQ)
    cases hb : C.testBit t with
    | true =>
      have t0 : ¬ ((nI C >>> (nI t &&& 31)) &&& 1) = 0 := fun q => by
        rw [bit_0 (by omega) (by omega), hb] at q
        cases q
      have t1 : ((nI C >>> (nI t &&& 31)) &&& 1) = 1 := (bit_1 (by omega) (by omega)).mpr hb
      exact br_f t0 (Ec_of rfl (g_131_0 (br_f c0 (br_f m1 (br_f b0 (br_f mo1 (br_f (by decide) (br_f hto (mall _ _ e61f (g_131_20 (br_f (not_not_intro t1) (fin_f hG))))))))))))
    | false =>
      have t0 : ((nI C >>> (nI t &&& 31)) &&& 1) = 0 := (bit_0 (by omega) (by omega)).mpr hb
      have t1 : ¬ ((nI C >>> (nI t &&& 31)) &&& 1) = 1 := fun q => by
        rw [bit_1 (by omega) (by omega), hb] at q
        cases q
      refine br_t t0 (c_keep h1 hnx h2 hm (fun σk hK => g_77_35 ⟨_, ix8 2 t, by omega, br_f (by decide) ⟨_, ix8 2 t, by omega, ?_⟩⟩))
      rw [kc σk hK, set8 (by omega)]
      have hmod : ∀ (v : Int32) (σ1 : Mem), v = (if (nd (σ 61) t).testBit o = true then 0 else 1) → σ1 = up σk 2 (8 * 2 + t) (nI ((nd (σ 61) t) ||| 2 ^ o)) → Ec S (d + 4) 131 [.inr (some 60), .inl (nI t), .inl (nI o), .inl 1] σ1 (fun rv2 σ2 => ∃ z : Int32, ([.inl v] : List MV) = [.inl z] ∧ rv2 = [.inl z] ∧ GI σ2) := by
        intro v σ1 hv hσ1
        subst hσ1
        have e61 := k61 σk (nI ((nd (σ 61) t) ||| 2 ^ o)) hK
        refine Ec_of rfl (g_131_0 (br_f c0 (br_f (by rw [e61, hR.2.1]; exact c2) (br_f b0 (br_f (by rw [e61, hR.2.1]; exact b2) (br_f (by decide) (br_f hto (mall _ _ e61 (g_131_20 (br_t t1 (c_act (k60 _ _ hK) hm (fun σa hA => g_131_32 ⟨_, ix9 t 2, by omega, br_f (by decide) ⟨_, ix9 t 2, by omega, _, ix9 t 2, by omega, br_f (by decide) ?_⟩⟩))))))))))))
        have a61 : σa 61 = σ 61 := by rw [hA.1 61 (by decide) (by decide), e61]
        rw [a61, eN, set8 (by omega), bit_1 (by omega) (by omega)]
        have hfin := fin _ σk σa (or_lt hN ho) (by rw [setb, nd_self hR ht, decide_eq_false (fun z => hto (by rw [z]))]; rfl) hK hA
        cases hb : (nd (σ 61) t).testBit o with
        | true =>
          rw [hb, if_pos rfl] at hv
          exact br_f (by decide) ⟨0, by rw [hv], rfl, hfin⟩
        | false =>
          rw [hb, if_neg (by decide)] at hv
          exact br_t (by decide) ⟨1, by rw [hv], rfl, hfin⟩
      rw [nI_inj (by omega) (by have := or_lt hN ho; have := lt256 hn8 this; omega), set_same _ hN8 o (by omega)]
      cases hb : (nd (σ 61) t).testBit o with
      | true => exact br_f (by decide) (hmod 0 _ (by rw [hb, if_pos rfl]) rfl)
      | false => exact br_t (by decide) (hmod 1 _ (by rw [hb, if_neg (by decide)]) rfl)
