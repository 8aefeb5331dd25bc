/-! numbers, bits, memory reads -/
theorem up_ne {σ : Mem} {a j a' : Nat} {v : Int32} (h : a' ≠ a) : up σ a j v a' = σ a' := by
  funext j'
  unfold up
  rw [if_neg (fun q => h q.1)]
theorem up_at {σ : Mem} {a j : Nat} {v : Int32} (j' : Nat) : up σ a j v a j' = if j' = j then v else σ a j' := by
  unfold up
  by_cases h : j' = j
  · rw [if_pos ⟨rfl, h⟩, if_pos h]
  · rw [if_neg (fun q => h q.2), if_neg h]
theorem up_self {σ : Mem} {a j : Nat} {v : Int32} : up σ a j v a j = v := by rw [up_at, if_pos rfl]
theorem up_off {σ : Mem} {a j j' : Nat} {v : Int32} (h : j' ≠ j) : up σ a j v a j' = σ a j' := by rw [up_at, if_neg h]
theorem upr_ne {σ : Mem} {a a' : Nat} {f : Nat → Int32} (h : a' ≠ a) : upr σ a f a' = σ a' := by
  funext j'
  unfold upr
  rw [if_neg h]
theorem upr_self {σ : Mem} {a : Nat} {f : Nat → Int32} : upr σ a f a = f := by
  funext j'
  unfold upr
  rw [if_pos rfl]
theorem rng {x : Int32} {L : Nat} (hL : L < 2 ^ 30) (h0 : ¬ x < 0) (h1 : ¬ nI L < x) : ∃ j, j ≤ L ∧ x = nI j := by
  obtain ⟨j, hj, rfl⟩ := nI_of h0
  exact ⟨j, by
    rcases Nat.lt_or_ge L j with q | q
    · exact absurd (nI_lt q hj) h1
    · exact q, rfl⟩
theorem rngl {x : Int32} {L : Nat} (hL : L < 2 ^ 30) (h0 : ¬ x < 0) (h1 : ¬ nI L ≤ x) : ∃ j, j < L ∧ x = nI j := by
  obtain ⟨j, hj, rfl⟩ := nI_of h0
  exact ⟨j, by
    rcases Nat.lt_or_ge j L with q | q
    · exact q
    · exact absurd (nI_le q hj) h1, rfl⟩
theorem ix9 (t k : Nat) : (1 + 9 * nI t) + nI k = nI (1 + 9 * t + k) := by
  rw [show (9 : Int32) = nI 9 from rfl, pk_mul, show (1 : Int32) = nI 1 from rfl, nI_add, nI_add]
theorem nI_m1 {j : Nat} (h : j < 2 ^ 30) : ¬ nI j = -1 := by
  intro q
  have := congrArg Int32.toInt q
  rw [nI_toInt (by omega)] at this
  have h2 : (-1 : Int32).toInt = -1 := by decide
  omega
theorem nI_nneg {j : Nat} (h : j < 2 ^ 30) : ¬ nI j < 0 := nI_pos (by omega)
theorem nI_inj {a b : Nat} (ha : a < 2 ^ 30) (hb : b < 2 ^ 30) : nI a = nI b ↔ a = b := nI_eq (by omega) (by omega)
theorem nI_bv (n : Nat) : (nI n).toBitVec = BitVec.ofNat 32 n := rfl
theorem nI_and (a b : Nat) : nI a &&& nI b = nI (a &&& b) := by
  apply Int32.toBitVec_inj.mp
  rw [Int32.toBitVec_and, nI_bv, nI_bv, nI_bv, BitVec.ofNat_and]
theorem nI_or (a b : Nat) : nI a ||| nI b = nI (a ||| b) := by
  apply Int32.toBitVec_inj.mp
  rw [Int32.toBitVec_or, nI_bv, nI_bv, nI_bv, BitVec.ofNat_or]
theorem sh31 : ∀ n, n < 32 → ((nI n &&& 31).toBitVec.smod 32).toNat = n := by decide +kernel
theorem nI_shr {s t : Nat} (hs : s < 2 ^ 31) (ht : t < 32) : nI s >>> (nI t &&& 31) = nI (s / 2 ^ t) := pk_shrN hs _ t (sh31 t ht)
theorem nI_shl {s t : Nat} (ht : t < 32) (h : s * 2 ^ t < 2 ^ 32) : nI s <<< (nI t &&& 31) = nI (s * 2 ^ t) := pk_shlN _ t (sh31 t ht) h
theorem bit_at {s t : Nat} (hs : s < 2 ^ 30) (ht : t < 32) : (nI s >>> (nI t &&& 31)) &&& 1 = nI ((s.testBit t).toNat) := by
  rw [nI_shr (by omega) ht, show (1 : Int32) = nI 1 from rfl, nI_and, Nat.and_one_is_mod, Nat.testBit_eq_decide_div_mod_eq]
  congr 1
  have : s / 2 ^ t % 2 = 0 ∨ s / 2 ^ t % 2 = 1 := by omega
  rcases this with h | h <;> simp [h]
theorem bit_1 {s t : Nat} (hs : s < 2 ^ 30) (ht : t < 32) : ((nI s >>> (nI t &&& 31)) &&& 1) = 1 ↔ s.testBit t = true := by
  rw [bit_at hs ht, show (1 : Int32) = nI 1 from rfl, nI_inj (by cases s.testBit t <;> decide) (by decide)]
  cases s.testBit t <;> decide
theorem bit_0 {s t : Nat} (hs : s < 2 ^ 30) (ht : t < 32) : ((nI s >>> (nI t &&& 31)) &&& 1) = 0 ↔ s.testBit t = false := by
  rw [bit_at hs ht, show (0 : Int32) = nI 0 from rfl, nI_inj (by cases s.testBit t <;> decide) (by decide)]
  cases s.testBit t <;> decide
/-! the row of the reference: r; of the system: c -/
def isW (x : Int32) : Prop := x = -1 ∨ ∃ w, w < 6 ∧ x = nI w
def TI (r : Nat → Int32) (n t : Nat) : Prop := (∃ q, q ≤ 3 ∧ r (1 + 9 * t) = nI q) ∧ (∃ q, 1 ≤ q ∧ q ≤ 9 ∧ r (1 + 9 * t + 1) = nI q) ∧ (∃ q, (q < 2 ^ n ∧ q.testBit t = false) ∧ r (1 + 9 * t + 2) = nI q) ∧ (∃ q, q ≤ 9 ∧ r (1 + 9 * t + 3) = nI q) ∧ (∃ q, q < 65536 ∧ r (1 + 9 * t + 4) = nI q) ∧
  (r (1 + 9 * t + 5) = -1 ∨ ∃ q, q < n ∧ q ≠ t ∧ r (1 + 9 * t + 5) = nI q) ∧ isW (r (1 + 9 * t + 6)) ∧ isW (r (1 + 9 * t + 7)) ∧ (∃ q, q ≤ 1000 ∧ r (1 + 9 * t + 8) = nI q) ∧
  (r (1 + 9 * t) = 2 → r (1 + 9 * t + 6) = -1 ∧ r (1 + 9 * t + 7) = -1 ∧ r (1 + 9 * t + 3) = 0) ∧ (¬ r (1 + 9 * t) = 3 → r (1 + 9 * t + 5) = -1)
def RI (r : Nat → Int32) (n : Nat) : Prop := n ≤ 8 ∧ r 0 = nI n ∧ (∀ t, t < n → TI r n t) ∧ (∀ w, w < 6 → ∃ q, q ≤ 40 ∧ r (73 + w) = nI q) ∧ (∀ w, w < 6 → r (79 + w) = 0 ∨ r (79 + w) = 1) ∧ (∃ q, q ≤ 6 ∧ r 85 = nI q)
/-- field k of the system's topics is field fm k of the reference's -/
def fm (k : Nat) : Nat := match k with
  | 5 => 6
  | 6 => 7
  | 7 => 8
  | 8 => 5
  | k => k
def CR (c r : Nat → Int32) (n : Nat) : Prop := c 80 = nI n ∧ (∀ k, k < 9 → ∀ t, t < n → c (8 * k + t) = r (1 + 9 * t + fm k)) ∧ (∀ w, w < 6 → c (72 + w) = r (73 + w)) ∧ (∃ q, q < 64 ∧ c 78 = nI q ∧ ∀ w, w < 6 → (q.testBit w = true ↔ r (79 + w) = 1)) ∧ c 79 = r 85
def GR (c r : Nat → Int32) : Prop := ∃ n, RI r n ∧ CR c r n
def RIe (r r' : Nat → Int32) : Prop := ∀ k, k < 86 → r' k = r k
theorem RI.congr {r r' : Nat → Int32} {n : Nat} (h : RI r n) (e : RIe r r') : RI r' n := by
  obtain ⟨h1, h2, h3, h4, h5, h6⟩ := h
  refine ⟨h1, by rw [e 0 (by omega)]; exact h2, fun t ht => ?_, fun w hw => by rw [e _ (by omega)]; exact h4 w hw, fun w hw => by rw [e _ (by omega)]; exact h5 w hw, by rw [e _ (by omega)]; exact h6⟩
  have := h3 t ht
  unfold TI at this ⊢
  rw [e _ (by omega), e _ (by omega), e _ (by omega), e _ (by omega), e _ (by omega), e _ (by omega), e _ (by omega), e _ (by omega), e _ (by omega)]
  exact this
theorem fm_lt {k : Nat} (h : k < 9) : fm k < 9 := by
  rcases (show k = 0 ∨ k = 1 ∨ k = 2 ∨ k = 3 ∨ k = 4 ∨ k = 5 ∨ k = 6 ∨ k = 7 ∨ k = 8 by omega) with rfl | rfl | rfl | rfl | rfl | rfl | rfl | rfl | rfl <;> decide
theorem CR.congr {c c' r r' : Nat → Int32} {n : Nat} (hn : n ≤ 8) (h : CR c r n) (e : RIe r r') (e2 : ∀ k, k < 81 → c' k = c k) : CR c' r' n := by
  obtain ⟨h1, h2, h3, ⟨q, h4, h5, h6⟩, h7⟩ := h
  refine ⟨by rw [e2 _ (by omega)]; exact h1, fun k hk t ht => ?_, fun w hw => by rw [e2 _ (by omega), e _ (by omega)]; exact h3 w hw, ⟨q, h4, by rw [e2 _ (by omega)]; exact h5, fun w hw => by rw [e _ (by omega)]; exact h6 w hw⟩, by rw [e2 _ (by omega), e _ (by omega)]; exact h7⟩
  have := fm_lt hk
  rw [e2 _ (by omega), e _ (by omega)]
  exact h2 k hk t ht
theorem GR.congr {c c' r r' : Nat → Int32} (h : GR c r) (e : RIe r r') (e2 : ∀ k, k < 81 → c' k = c k) : GR c' r' := by
  obtain ⟨n, h1, h2⟩ := h
  exact ⟨n, h1.congr e, h2.congr h1.1 e e2⟩
/-- the acts that are kept: m of them; the system's in a ring of 25 rows, the next at nx -/
def GH (hd : Nat → Int32) (cr : Nat → Nat → Int32) (km : Int32) (kt : Nat → Int32) : Prop := ∃ m nx, m ≤ 25 ∧ nx < 25 ∧ hd 1 = nI nx ∧ hd 2 = nI m ∧ km = nI m ∧ ∀ j, j < m → GR (cr ((nx + 25 - m + j) % 25)) (fun k => kt (86 * j + k))
/-- sheets -/
def GS (σ : Mem) : Prop := ∀ s, s < 4 → σ (52 + 2 * s) 1 = σ 63 s ∧ σ (52 + 2 * s) 2 = σ 64 s ∧ (σ 63 s = 0 ∨ σ 63 s = 8 ∨ σ 63 s = 16 ∨ σ 63 s = 32) ∧ (∃ q, q ≤ 6 ∧ σ 64 s = nI q) ∧ ∀ i, i < 6 → σ (53 + 2 * s) i = σ 65 (6 * s + i)
def GI (σ : Mem) : Prop := GR (σ 2) (σ 61) ∧ GH (σ 24) (fun j => σ (26 + j)) (σ 60 2) (σ 62) ∧ GS σ ∧ σ 0 5 = σ 60 6
theorem GI0 : GI σ0 := by
  refine ⟨⟨0, ⟨by decide, rfl, fun t h => absurd h (Nat.not_lt_zero t), fun w hw => ⟨10, by decide, ?_⟩, fun w hw => Or.inl ?_, 6, by decide, rfl⟩, rfl, fun k hk t h => absurd h (Nat.not_lt_zero t), fun w hw => ?_, ⟨0, by decide, rfl, fun w hw => ?_⟩, rfl⟩, ⟨0, 0, by decide, by decide, rfl, rfl, rfl, fun j h => absurd h (Nat.not_lt_zero j)⟩, fun s hs => ?_, rfl⟩
  · rcases (show w = 0 ∨ w = 1 ∨ w = 2 ∨ w = 3 ∨ w = 4 ∨ w = 5 by omega) with rfl | rfl | rfl | rfl | rfl | rfl <;> rfl
  · rcases (show w = 0 ∨ w = 1 ∨ w = 2 ∨ w = 3 ∨ w = 4 ∨ w = 5 by omega) with rfl | rfl | rfl | rfl | rfl | rfl <;> rfl
  · rcases (show w = 0 ∨ w = 1 ∨ w = 2 ∨ w = 3 ∨ w = 4 ∨ w = 5 by omega) with rfl | rfl | rfl | rfl | rfl | rfl <;> rfl
  · rcases (show w = 0 ∨ w = 1 ∨ w = 2 ∨ w = 3 ∨ w = 4 ∨ w = 5 by omega) with rfl | rfl | rfl | rfl | rfl | rfl <;> decide +kernel
  · rcases (show s = 0 ∨ s = 1 ∨ s = 2 ∨ s = 3 by omega) with rfl | rfl | rfl | rfl <;> exact ⟨rfl, rfl, Or.inl rfl, ⟨0, by decide, rfl⟩, fun i hi => rfl⟩
