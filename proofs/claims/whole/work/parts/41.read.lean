def stC (f : Nat → Int32) (w : Nat) (c : Nat → Int32) : Nat → Int32 := if f w < 0 then upd c 78 (c 78 ||| (1 <<< (nI w &&& 31))) else upd (upd c 78 (c 78 &&& ((1 <<< (nI w &&& 31)) ^^^ (-1)))) (72 + w) (f w)
def stM (f : Nat → Int32) (w : Nat) (r : Nat → Int32) : Nat → Int32 := if f w < 0 then upd r (79 + w) 1 else upd (upd r (79 + w) 0) (73 + w) (f w)
def itC (f : Nat → Int32) : Nat → Nat → (Nat → Int32) → (Nat → Int32)
  | 0, _, c => c
  | q + 1, k, c => itC f q (k + 1) (stC f k c)
def itM (f : Nat → Int32) : Nat → Nat → (Nat → Int32) → (Nat → Int32)
  | 0, _, c => c
  | q + 1, k, c => itM f q (k + 1) (stM f k c)
theorem st_ok {f c r : Nat → Int32} {n w : Nat} (hR : RI r n) (hC : CR c r n) (hw : w < 6) (hf : f w ≤ 40) : RI (stM f w r) n ∧ CR (stC f w c) (stM f w r) n := by
  have hn8 := hR.1
  obtain ⟨s, hs, h78, hbit⟩ := hC.2.2.2.1
  unfold stC stM
  rw [h78]
  by_cases h : f w < 0
  · rw [if_pos h, if_pos h, set8 (by omega)]
    refine ⟨RI_hi hR (by omega) (fun i hi => ?_) (by rw [upd_n (by omega)]; exact hR.2.2.2.2.2), CR_snow hn8 hC hw (or_lt (n := 6) hs hw) (fun i hi => ?_)⟩
    · by_cases e : i = w
      · subst e
        rw [upd_s]
        exact Or.inr rfl
      · rw [upd_n (by omega)]
        exact hR.2.2.2.2.1 i hi
    · rw [setb]
      by_cases e : i = w
      · subst e
        simp [upd_s]
      · rw [upd_n (by omega), decide_eq_false (fun q => e q.symm), Bool.or_false]
        exact hbit i hi
  · rw [if_neg h, if_neg h, clr8 s (by omega) w (by omega)]
    have hR1 : RI (upd r (79 + w) 0) n := by
      refine RI_hi hR (by omega) (fun i hi => ?_) (by rw [upd_n (by omega)]; exact hR.2.2.2.2.2)
      by_cases e : i = w
      · subst e
        rw [upd_s]
        exact Or.inl rfl
      · rw [upd_n (by omega)]
        exact hR.2.2.2.2.1 i hi
    have hC1 : CR (upd c 78 (nI (s &&& (255 - 2 ^ w)))) (upd r (79 + w) 0) n := by
      refine CR_snow hn8 hC hw (clr_lt (n := 6) hs) (fun i hi => ?_)
      rw [clrt (by omega) (by omega)]
      by_cases e : i = w
      · subst e
        simp [upd_s]
      · rw [upd_n (by omega), decide_eq_true e, Bool.and_true]
        exact hbit i hi
    have e40 : ¬ nI 40 < f w := Int32.not_lt.mpr hf
    obtain ⟨q, hq, e⟩ := rng (L := 40) (by decide) h e40
    rw [e]
    exact ⟨RI_room hR1 hw hq, CR_room hn8 hC1 hw⟩
theorem it_ok {f : Nat → Int32} {n : Nat} : ∀ (q k : Nat) (c r : Nat → Int32), RI r n → CR c r n → k + q ≤ 6 → (∀ w, k ≤ w → w < k + q → f w ≤ 40) → RI (itM f q k r) n ∧ CR (itC f q k c) (itM f q k r) n
  | 0, _, _, _, hR, hC, _, _ => ⟨hR, hC⟩
  | q + 1, k, c, r, hR, hC, hk, hf => by
    obtain ⟨h1, h2⟩ := st_ok (f := f) hR hC (show k < 6 by omega) (hf k (by omega) (by omega))
    exact it_ok q (k + 1) _ _ h1 h2 (by omega) (fun w h3 h4 => hf w (by omega) (by omega))
theorem rd_t {S : Nat × (Nat → Int32)} {d s n : Nat} {σ : Mem} {o1 o5 : Option MV} {Q : MQ1} (hs : s < 4) (hn : n ≤ 6) : ∀ (q k : Nat), k + q = n → ((∀ w, k ≤ w → w < n → σ (53 + 2 * s) w ≤ 40) → ∀ x : Int32, Ec S (d + 2) 26 [.inr (some 24), .inr (some 1)] σ (fun rv σ' => Ev S (d + 3) 88 45 [some (.inr (some 0)), o1, some (.inr (some (52 + 2 * s))), some (.inl (nI n)), some (.inl x), o5] (rv ++ []) σ' Q)) → (¬ (∀ w, k ≤ w → w < n → σ (53 + 2 * s) w ≤ 40) → Q [.inl (-100001)] (up σ 0 5 ((σ 0 5) + 1))) → Ev S (d + 3) 88 26 [some (.inr (some 0)), o1, some (.inr (some (52 + 2 * s))), some (.inl (nI n)), some (.inl (nI k)), o5] [] σ Q
  | 0, k, hk, hA, hB => by
    have : k = n := by omega
    subst this
    exact g_88_26 (isSt_at hs).1 (br_t (Int32.le_refl _) (hA (fun w h1 h2 => by omega) _))
  | q + 1, k, hk, hA, hB => by
    refine g_88_26 (isSt_at hs).1 (br_f (nI_ge (by omega) (by omega)) ⟨k, rfl, by omega, ?_⟩)
    by_cases h : σ (53 + 2 * s) k ≤ 40
    · refine br_t h ?_
      rw [nI_1]
      refine rd_t hs hn q (k + 1) (by omega) (fun a => hA (fun w h1 h2 => ?_)) (fun a => hB (fun z => a (fun w h1 h2 => z w (by omega) h2)))
      by_cases e : w = k
      · subst e
        exact h
      · exact a w (by omega) h2
    · exact br_f h (hB (fun z => h (z k (by omega) (by omega))))
theorem rd_w {S : Nat × (Nat → Int32)} {d s n : Nat} {f : Nat → Int32} {o1 : Option MV} {Q : MQ1} (hs : s < 4) (hn : n ≤ 6) : ∀ (q k : Nat) (σ : Mem) (o5 : Option MV), k + q = n → σ (53 + 2 * s) = f → (∀ σ' : Mem, (∀ a, a ≠ 2 → σ' a = σ a) → σ' 2 = itC f q k (σ 2) → Q [.inl (nI n)] σ') → Ev S (d + 3) 88 47 [some (.inr (some 0)), o1, some (.inr (some (52 + 2 * s))), some (.inl (nI n)), some (.inl (nI k)), o5] [] σ Q
  | 0, k, σ, o5, hk, hf, h => by
    have : k = n := by omega
    subst this
    exact g_88_47 (isSt_at hs).1 (br_t (Int32.le_refl _) (h σ (fun _ _ => rfl) rfl))
  | q + 1, k, σ, o5, hk, hf, h => by
    refine g_88_47 (isSt_at hs).1 (br_f (nI_ge (by omega) (by omega)) ⟨k, rfl, by omega, ?_⟩)
    rw [hf]
    by_cases hz : f k < 0
    · refine br_f (Int32.not_le.mpr hz) (br_t hz ?_)
      rw [nI_1]
      refine rd_w hs hn q (k + 1) _ _ (by omega) (by rw [up_ne (by omega), hf]) (fun σ' h1 h2 => h σ' (fun a ha => by rw [h1 a ha, up_ne ha]) ?_)
      rw [h2, up_row]
      show _ = itC f q (k + 1) (stC f k (σ 2))
      unfold stC
      rw [if_pos hz]
    · refine br_t (Int32.not_lt.mp hz) (br_f hz ⟨_, ixp 72 k, by omega, ?_⟩)
      rw [nI_1]
      refine rd_w hs hn q (k + 1) _ _ (by omega) (by rw [up_ne (by omega), up_ne (by omega), hf]) (fun σ' h1 h2 => h σ' (fun a ha => by rw [h1 a ha, up_ne ha, up_ne ha]) ?_)
      rw [h2, up_row, up_row]
      show _ = itC f q (k + 1) (stC f k (σ 2))
      unfold stC
      rw [if_neg hz]
theorem rm_t {S : Nat × (Nat → Int32)} {d s n : Nat} {σ : Mem} {o3 : Option MV} {Q : MQ1} (hs : s < 4) (hn : n ≤ 6) (h64 : σ 64 s = nI n) : ∀ (q k : Nat), k + q = n → ((∀ w, k ≤ w → w < n → σ 65 (6 * s + w) ≤ 40) → ∀ x : Int32, Ec S (d + 1) 126 [.inr (some 60)] σ (fun rv σ' => Ev S (d + 2) 145 42 [some (.inr (some 60)), some (.inl (nI s)), some (.inl x), o3] (rv ++ []) σ' Q)) → (¬ (∀ w, k ≤ w → w < n → σ 65 (6 * s + w) ≤ 40) → Q [.inl (-100001)] (up σ 60 6 ((σ 60 6) + 1))) → Ev S (d + 2) 145 18 [some (.inr (some 60)), some (.inl (nI s)), some (.inl (nI k)), o3] [] σ Q
  | 0, k, hk, hA, hB => by
    have : k = n := by omega
    subst this
    refine g_145_18 ⟨s, rfl, hs, ?_⟩
    rw [h64]
    exact br_t (Int32.le_refl _) (hA (fun w h1 h2 => by omega) _)
  | q + 1, k, hk, hA, hB => by
    refine g_145_18 ⟨s, rfl, hs, ?_⟩
    rw [h64]
    refine br_f (nI_ge (by omega) (by omega)) ⟨_, ix6 s k, by omega, ?_⟩
    by_cases h : σ 65 (6 * s + k) ≤ 40
    · refine br_t h ?_
      rw [nI_1]
      refine rm_t hs hn h64 q (k + 1) (by omega) (fun a => hA (fun w h1 h2 => ?_)) (fun a => hB (fun z => a (fun w h1 h2 => z w (by omega) h2)))
      by_cases e : w = k
      · subst e
        exact h
      · exact a w (by omega) h2
    · exact br_f h (hB (fun z => h (z k (by omega) (by omega))))
theorem up_same {σ : Mem} {a j : Nat} : up σ a j (σ a j) = σ := by
  funext a' j'
  unfold up
  by_cases h : a' = a ∧ j' = j
  · rw [if_pos h, h.1, h.2]
  · rw [if_neg h]
theorem rm_w {S : Nat × (Nat → Int32)} {d s n : Nat} {f : Nat → Int32} {Q : MQ1} (hs : s < 4) (hn : n ≤ 6) : ∀ (q k : Nat) (σ : Mem) (o3 : Option MV), k + q = n → σ 64 s = nI n → (∀ w, w < 6 → σ 65 (6 * s + w) = f w) → (∀ σ' : Mem, (∀ a, a ≠ 61 → σ' a = σ a) → σ' 61 = itM f q k (σ 61) → Q [.inl (nI n)] σ') → Ev S (d + 2) 145 44 [some (.inr (some 60)), some (.inl (nI s)), some (.inl (nI k)), o3] [] σ Q
  | 0, k, σ, o3, hk, h64, hf, h => by
    have : k = n := by omega
    subst this
    refine g_145_44 ⟨s, rfl, hs, ?_⟩
    rw [h64]
    refine br_t (Int32.le_refl _) ⟨s, rfl, hs, ?_⟩
    rw [h64]
    exact h σ (fun _ _ => rfl) rfl
  | q + 1, k, σ, o3, hk, h64, hf, h => by
    refine g_145_44 ⟨s, rfl, hs, ?_⟩
    rw [h64]
    refine br_f (nI_ge (by omega) (by omega)) ⟨_, ix6 s k, by omega, ?_⟩
    rw [hf k (by omega)]
    by_cases hz : f k < 0
    · refine br_f (Int32.not_le.mpr hz) ⟨_, ixp 79 k, by omega, br_f (Int32.not_le.mpr hz) ⟨_, ixp 73 k, by omega, _, ixp 73 k, by omega, ?_⟩⟩
      rw [nI_1, up_same]
      refine rm_w (f := f) hs hn q (k + 1) _ _ (by omega) (by rw [up_ne (by omega), h64]) (fun w hw => by rw [up_ne (by omega)]; exact hf w hw) (fun σ' h1 h2 => h σ' (fun a ha => by rw [h1 a ha, up_ne ha]) ?_)
      rw [h2, up_row]
      show _ = itM f q (k + 1) (stM f k (σ 61))
      unfold stM
      rw [if_pos hz]
    · refine br_t (Int32.not_lt.mp hz) ⟨_, ixp 79 k, by omega, br_t (Int32.not_lt.mp hz) ⟨_, ixp 73 k, by omega, ?_⟩⟩
      rw [nI_1]
      refine rm_w (f := f) hs hn q (k + 1) _ _ (by omega) (by rw [up_ne (by omega), up_ne (by omega), h64]) (fun w hw => by rw [up_ne (by omega), up_ne (by omega)]; exact hf w hw) (fun σ' h1 h2 => h σ' (fun a ha => by rw [h1 a ha, up_ne ha, up_ne ha]) ?_)
      rw [h2, up_row, up_row]
      show _ = itM f q (k + 1) (stM f k (σ 61))
      unfold stM
      rw [if_neg hz]
theorem L_read {S : Nat × (Nat → Int32)} {d : Nat} {σ : Mem} {x1 : Int32} (hG : GI σ) : LK S (d + 4) 88 (d + 4) 145 [.inl x1] σ := by
  have hG' := hG
  obtain ⟨⟨n, hR, hC⟩, ⟨m, nx, hm, hnx, h1, h2, h3, hold⟩, hS, hF⟩ := hG'
  refine Ec_of rfl (g_88_0 ?_)
  rcases ixc x1 (n := 4) (by decide) with c | ⟨c0, c1, c2⟩ | ⟨s, hs, rfl, c0, c1, c2⟩
  · exact br_t c (Ec_of rfl (g_145_0 (br_t c (fin_f hG))))
  · exact br_f c0 (br_f c2 (Ec_of rfl (g_145_0 (br_f c0 (br_t (Int32.lt_of_lt_of_le (by decide) c1) (fin_f hG))))))
  have c3 : ¬ (3 : Int32) < nI s := nI_nlt (a := 3) (by omega) (by decide)
  obtain ⟨s1, s2, s3, ⟨q, hq, s4⟩, s5⟩ := hS s hs
  have e63 : ∀ v, up σ 0 5 v 63 = σ 63 := fun v => up_ne (by decide)
  have e64 : ∀ v, up σ 0 5 v 64 = σ 64 := fun v => up_ne (by decide)
  have e65 : ∀ v, up σ 0 5 v 65 = σ 65 := fun v => up_ne (by decide)
  refine br_f c0 (br_t c1 ⟨s, _, _, rfl, (isSt_at hs).2, (isSt_at hs).1, ?_⟩)
  rw [s1, s2, s4, if_neg (show ¬ (6 : Int32) < nI q from nI_nlt (a := 6) hq (by decide))]
  by_cases hz : σ 63 s = 0
  · exact br_f (not_not_intro hz) (Ec_of rfl (g_145_0 (br_f c0 (br_f c3 ⟨s, rfl, hs, br_f (not_not_intro (by rw [e63]; exact hz)) (fin_f hG)⟩))))
  refine br_t hz ?_
  have heq : (∀ w, 0 ≤ w → w < q → σ (53 + 2 * s) w ≤ 40) ↔ (∀ w, 0 ≤ w → w < q → σ 65 (6 * s + w) ≤ 40) := ⟨fun a w x y => by rw [← s5 w (by omega)]; exact a w x y, fun a w x y => by rw [s5 w (by omega)]; exact a w x y⟩
  refine rd_t hs hq q 0 (by omega) (fun hall x => c_keep h1 hnx h2 hm (fun σk hK => g_88_45 (isSt_at hs).1 (rd_w (f := σ (53 + 2 * s)) hs hq q 0 _ _ (by omega) (hK.1 _ (by omega) (by omega)) (fun σ1 r1 r2 => ?_)))) (fun hno => ?_)
  · have o : ∀ a, a ≠ 2 → a ≠ 24 → a ≠ 26 + nx → σ1 a = σ a := fun a x y z => by rw [r1 a x, hK.1 a y z]
    refine Ec_of rfl (g_145_0 (br_f c0 (br_f c3 ⟨s, rfl, hs, br_t (by rw [o 63 (by omega) (by omega) (by omega)]; exact hz) (rm_t hs hq (by rw [o 64 (by omega) (by omega) (by omega)]; exact s4) q 0 (by omega) (fun _ x => c_act (m := m) (by rw [o 60 (by omega) (by omega) (by omega)]; exact h3) hm (fun σa hA => g_145_42 (rm_w (f := σ (53 + 2 * s)) hs hq q 0 _ _ (by omega) ?_ (fun w hw => ?_) (fun σ2 q1 q2 => ?_)))) (fun hno => ?_))⟩)))
    · rw [hA.1 64 (by decide) (by decide), o 64 (by omega) (by omega) (by omega)]
      exact s4
    · rw [hA.1 65 (by decide) (by decide), o 65 (by omega) (by omega) (by omega)]
      exact (s5 w hw).symm
    · have hk2 : σk 2 = σ 2 := hK.1 2 (by decide) (by omega)
      obtain ⟨i1, i2⟩ := it_ok (f := σ (53 + 2 * s)) q 0 _ _ hR hC (by omega) (fun w a b => hall w a (by omega))
      refine ⟨_, rfl, rfl, GI_act ⟨n, hR, hC⟩ hm hnx hold hS hF hK r1 hA q1 ⟨n, ?_, ?_⟩⟩
      · rw [q2, hA.1 61 (by decide) (by decide), o 61 (by omega) (by omega) (by omega)]
        exact i1
      · rw [q2, hA.1 61 (by decide) (by decide), o 61 (by omega) (by omega) (by omega), q1 2 (by decide), hA.1 2 (by decide) (by decide), r2, hk2]
        exact i2
    · exfalso
      apply hno
      rw [o 65 (by omega) (by omega) (by omega)]
      exact heq.mp hall
  · refine Ec_of rfl (g_145_0 (br_f c0 (br_f c3 ⟨s, rfl, hs, br_t (by rw [e63]; exact hz) (rm_t hs hq (by rw [e64]; exact s4) q 0 (by omega) (fun hall x => ?_) (fun _ => fin_f hG))⟩)))
    exfalso
    apply hno
    rw [e65] at hall
    exact heq.mpr hall
