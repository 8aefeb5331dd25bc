/-! the constructors, run by the kernel -/
def m_S0 : Nat × (Nat → Int32) := (0, fun _ => 0)
theorem stp_S {S : Nat × (Nat → Int32)} {d k : Nat} {ls : ML} {st : List MV} {h : MH} : ∀ i : MI, i.1 ≠ 19 → stp m_S0 d i k ls st h ≠ .inr false → stp S d i k ls st h = stp m_S0 d i k ls st h
  | (15, _, _, _, _), _, hb => by
    replace hb : s_iald m_S0 k ls st h ≠ .inr false := hb
    show s_iald S k ls st h = s_iald m_S0 k ls st h
    unfold s_iald at hb ⊢
    split
    · rename_i i a r
      by_cases hi : i < 0
      · rw [if_pos hi, if_pos hi]
      · rw [if_neg hi, if_neg hi]
        by_cases ha : a = m_scr
        · dsimp only at hb
          rw [if_neg hi, if_pos ha] at hb
          exact absurd rfl (by
            rw [if_neg (show ¬ i.toNatClampNeg < m_S0.1 from Nat.not_lt_zero _)] at hb
            exact hb)
        · rw [if_neg ha, if_neg ha]
    · rfl
  | (19, _, _, _, _), h, _ => absurd rfl h
  | (0, _, _, _, _), _, _ => rfl
  | (1, _, _, _, _), _, _ => rfl
  | (2, _, _, _, _), _, _ => rfl
  | (3, _, _, _, _), _, _ => rfl
  | (4, _, _, _, _), _, _ => rfl
  | (5, _, _, _, _), _, _ => rfl
  | (6, _, _, _, _), _, _ => rfl
  | (7, _, _, _, _), _, _ => rfl
  | (8, _, _, _, _), _, _ => rfl
  | (9, _, _, _, _), _, _ => rfl
  | (10, _, _, _, _), _, _ => rfl
  | (11, _, _, _, _), _, _ => rfl
  | (12, _, _, _, _), _, _ => rfl
  | (13, _, _, _, _), _, _ => rfl
  | (14, _, _, _, _), _, _ => rfl
  | (16, _, _, _, _), _, _ => rfl
  | (17, _, _, _, _), _, _ => rfl
  | (18, _, _, _, _), _, _ => rfl
  | (20, _, _, _, _), _, _ => rfl
  | (21, _, _, _, _), _, _ => rfl
  | (22, _, _, _, _), _, _ => rfl
  | (23, _, _, _, _), _, _ => rfl
  | (24, _, _, _, _), _, _ => rfl
  | (25, _, _, _, _), _, _ => rfl
  | (26, _, _, _, _), _, _ => rfl
  | (27, _, _, _, _), _, _ => rfl
  | (28, _, _, _, _), _, _ => rfl
  | (29, _, _, _, _), _, _ => rfl
  | (30, _, _, _, _), _, _ => rfl
  | (31, _, _, _, _), _, _ => rfl
  | (32, _, _, _, _), _, _ => rfl
  | (_ + 33, _, _, _, _), _, _ => rfl
theorem m_no19 : ((List.range 175).all fun j => (m_code (j + 1)).all fun i => decide (i.1 ≠ 19) && (if i.1 = 24 ∨ i.1 = 29 ∨ i.1 = 30 then decide (0 < i.2.1) && decide (i.2.1 < 176) else true)) = true := by decide +kernel
theorem m_no19_at {y k : Nat} {i : MI} (h0 : 0 < y) (hy : y < 176) (hi : (m_code y)[k]? = some i) : i.1 ≠ 19 ∧ ((i.1 = 24 ∨ i.1 = 29 ∨ i.1 = 30) → 0 < i.2.1 ∧ i.2.1 < 176) := by
  have h1 := List.all_eq_true.mp m_no19 (y - 1) (List.mem_range.mpr (by omega))
  rw [show y - 1 + 1 = y by omega] at h1
  have h2 := List.all_eq_true.mp h1 i (List.mem_of_getElem? hi)
  simp only [Bool.and_eq_true, decide_eq_true_eq] at h2
  refine ⟨h2.1, fun h3 => ?_⟩
  have h4 := h2.2
  rw [if_pos h3] at h4
  simp only [Bool.and_eq_true, decide_eq_true_eq] at h4
  exact h4
theorem bodyN_S {S : Nat × (Nat → Int32)} : ∀ (n d y k : Nat) (ls : ML) (st : List MV) (h : MH) (r : Nat × List MV × MH), 0 < y → y < 176 → bodyN m_S0 n d y k ls st h = some r → bodyN S n d y k ls st h = some r
  | 0, _, _, _, _, _, _, _, _, _, e => by
    unfold bodyN at e
    cases e
  | n + 1, d, y, k, ls, st, h, r, h0, hy, e => by
    unfold bodyN at e
    split at e
    · cases e
    · rename_i i hi
      obtain ⟨hi19, hic⟩ := m_no19_at h0 hy hi
      split at e
      · rename_i hs
        have hs2 : stp S d i k ls st h = _ := (stp_S i hi19 (by rw [hs]; intro q; cases q)).trans hs
        cases e
        exact b_ret rfl hi hs2
      · cases e
      · rename_i q hs
        have hs2 : stp S d i k ls st h = _ := (stp_S i hi19 (by rw [hs]; intro q; cases q)).trans hs
        exact (b_next rfl hi hs2).trans (bodyN_S n _ _ _ _ _ _ _ h0 hy e)
      · rename_i q hs
        have hs2 : stp S d i k ls st h = _ := (stp_S i hi19 (by rw [hs]; intro q; cases q)).trans hs
        obtain ⟨hop, hyy⟩ := stp_call i hs
        obtain ⟨y', As, rest⟩ := q
        split at e
        · cases e
        · split at e
          · cases e
          · rename_i r1 hr1
            obtain ⟨kR1, stR1, h1⟩ := r1
            split at e
            · cases e
            · rename_i rv hrv
              have hc := hic hop
              dsimp only at hyy
              rw [← hyy] at hc
              exact (b_call rfl hi hs2 (bodyN_S n _ _ _ _ _ _ _ hc.1 hc.2 hr1) hrv).trans (bodyN_S n _ _ _ _ _ _ _ h0 hy e)
def σ0 : Mem := fun a j => if a = 2 then (if 72 ≤ j ∧ j < 78 then 10 else if j = 79 then 6 else 0) else if a = 61 then (if 73 ≤ j ∧ j < 79 then 10 else if j = 85 then 6 else 0) else 0
def m_h60 : MH := (hp σ0).take 60
def m_eqC (a b : MC) : Bool := match a, b with
  | .inl o, .inl o' => decide (o = o')
  | .inr (.inl l), .inr (.inl l') => decide (l = l')
  | .inr (.inr q), .inr (.inr q') => decide (q = q')
  | _, _ => false
def m_eqH (a b : MH) : Bool := match a, b with
  | [], [] => true
  | x :: r, z :: t => m_eqC x z && m_eqH r t
  | _, _ => false
theorem m_eqC_ok {a b : MC} (h : m_eqC a b = true) : a = b := by
  unfold m_eqC at h
  split at h
  · rw [of_decide_eq_true h]
  · rw [of_decide_eq_true h]
  · rw [of_decide_eq_true h]
  · cases h
theorem m_eqH_ok : ∀ (a b : MH), m_eqH a b = true → a = b
  | [], [], _ => rfl
  | x :: r, z :: t, h => by
    unfold m_eqH at h
    simp only [Bool.and_eq_true] at h
    rw [m_eqC_ok h.1, m_eqH_ok r t h.2]
  | [], _ :: _, h => by unfold m_eqH at h; cases h
  | _ :: _, [], h => by unfold m_eqH at h; cases h
def m_eqR (r : Option (Nat × List MV × MH)) (k : Nat) (h : MH) : Bool := match r with
  | some q => decide (q.1 = k) && decide (q.2.1 = []) && m_eqH q.2.2 h
  | none => false
theorem m_eqR_ok {r : Option (Nat × List MV × MH)} {k : Nat} {h : MH} (e : m_eqR r k h = true) : r = some (k, [], h) := by
  unfold m_eqR at e
  split at e
  · rename_i q
    obtain ⟨a, b, c⟩ := q
    simp only [Bool.and_eq_true, decide_eq_true_eq] at e
    rw [e.1.1, e.1.2, m_eqH_ok _ _ e.2]
  · cases e
theorem z_LS0 : m_eqR (bodyN m_S0 2000 30 74 0 (m_ent 74 [.inr (some 0)]) [] [.inl (6, m_def.getD 6 [])]) 46 m_h60 = true := by decide +kernel
theorem z_M0 : m_eqR (bodyN m_S0 2000 30 117 0 (m_ent 117 [.inr (some 60)]) [] (m_h60 ++ [.inl (7, m_def.getD 7 [])])) 57 (hp σ0) = true := by decide +kernel
