abbrev A00 : AS := (0, 0, 0, fun _ => 0)
theorem m_goOver {S : Nat × (Nat → Int32)} {d n : Nat} {σ : Mem} {Q : MQ1} {bm : Bool} {x1 : Int32} (hx : x1 = 0 ↔ bm = false) (hR : RI (σ 61) n)
    (hl : 4 < pos (σ 61) n → ∀ σ' : Mem, (∀ a, a ≠ 60 → a ≠ 67 → a ≠ 68 → σ' a = σ a) → (∀ j, j ≠ 9 → σ' 60 j = σ 60 j) → Q [.inl 0] σ')
    (hk : pos (σ 61) n ≤ 4 → ∀ σ' : Mem, (∀ a, a ≠ 60 → a ≠ 67 → a ≠ 68 → a ≠ 69 → σ' a = σ a) → (∀ j, j ≠ 9 → j ≠ 12 → j ≠ 13 → j ≠ 14 → σ' 60 j = σ 60 j) → OW (σ 61) n σ' → RelM (σ 61) n σ' (goM (σ 61) n bm n 0 (fun _ => 0) A00) → Q [.inl 1] σ') : Ec S (d + 6) 162 [.inr (some 60), .inl x1] σ Q := by
  have hn8 := hR.1
  generalize hr : σ 61 = r at hR hl hk
  refine Ec_of rfl (g_162_0 (ow_loop hR n 0 _ (by omega) (by rw [up_ne (by decide)]; exact hr) (by rw [up_self]; rfl) (fun t' h => absurd h (Nat.not_lt_zero _)) (fun σ1 a1 a2 hO => ⟨fun h4 => ?_, fun h4 => ?_⟩)))
  · have hO2 : OW r n (up σ1 60 12 0) := by
      unfold OW
      rw [up_off (by decide), up_ne (by decide), up_ne (by decide)]
      exact hO
    have e61 : up σ1 60 12 0 61 = r := by rw [up_ne (by decide), a1 61 (by decide) (by decide) (by decide), up_ne (by decide)]; exact hr
    -- the end: the old plan is laid again
    have fin : ∀ (σ2 : Mem) (o1 o2 o3 o4 : Option MV) (A : AS), (∀ a, a ≠ 60 → a ≠ 61 → a ≠ 69 → σ2 a = up σ1 60 12 0 a) → (∀ j, j ≠ 12 → j ≠ 13 → j ≠ 14 → σ2 60 j = up σ1 60 12 0 60 j) → (∀ i, (∀ t', t' < n → ¬ r (1 + 9 * t') = 2 → i ≠ 1 + 9 * t' + 6 ∧ i ≠ 1 + 9 * t' + 7) → σ2 61 i = r i) → RelM r n σ2 A → A = goM r n bm n 0 (fun _ => 0) A00 → Ec S (d + 5) 163 [.inr (some 60), .inr (some 68)] σ2 (fun rv σ' => Ev S (d + 6) 162 120 [some (.inr (some 60)), o1, o2, o3, o4] (rv ++ []) σ' Q) := by
      intro σ2 o1 o2 o3 o4 A b1 b2 b3 hA eA
      have hO3 : OW r n σ2 := by
        unfold OW
        rw [b2 9 (by decide) (by decide) (by decide), b1 67 (by decide) (by decide) (by decide), b1 68 (by decide) (by decide) (by decide)]
        exact hO2
      refine Ec_of rfl (g_163_0 rfl (lay_loop (r := r) hn8 rfl (by decide) n 0 σ2 (by omega) ⟨hO3.1, fun t a b => (hO3.2 t a b).1⟩ (fun σ3 c1 c2 c3 => g_162_120 ?_)))
      have e : σ3 61 = r := row_fill (u := r) (v := r) (n := n) (r := r) (fun t a b => by
        obtain ⟨c5, c6⟩ := c2 t (by omega) a b
        rw [c5, c6, (hO3.2 t a b).2.1, (hO3.2 t a b).2.2]
        exact ⟨rfl, rfl⟩) (fun i hi => by rw [c3 i (fun t' _ a b => hi t' a b), b3 i hi])
      refine hk h4 σ3 (fun a y1 y2 y3 y4 => ?_) (fun j y1 y2 y3 y4 => ?_) ?_ ?_
      · by_cases ea : a = 61
        · subst ea
          rw [e, hr]
        · rw [c1 a ea, b1 a y1 ea y4, up_ne y1, a1 a y1 y2 y3, up_ne y1]
      · rw [c1 60 (by decide), b2 j y2 y3 y4, up_off y2, a2 j y1, up_off y1]
      · unfold OW
        rw [c1 60 (by decide), c1 67 (by decide), c1 68 (by decide)]
        exact hO3
      · unfold RelM
        rw [c1 60 (by decide), c1 69 (by decide), ← eA]
        exact hA
    have rel0 : ∀ σ2 : Mem, σ2 60 12 = 0 → RelM r n σ2 A00 := fun σ2 h => ⟨h, fun z => absurd z (Nat.lt_irrefl 0)⟩
    refine bg_loop hR n 0 (fun _ => 0) _ (by omega) hO2 (by rw [e61, row_00]) (fun t' h => absurd h (Nat.not_lt_zero _)) (fun σ2 p x b1 b2 b3 => ?_) (fun σ2 x b1 b2 b3 => ?_)
    · refine Gm (σs := up σ1 60 12 0) hx hR hO2 n 0 p (fun _ => 0) A00 σ2 _ _ (by omega) ⟨b2, fun a y1 y2 y3 => b1 a y2, fun j y1 y2 y3 => by rw [b1 60 (by decide)], rel0 σ2 (by rw [b1 60 (by decide), up_self])⟩ (fun i h => absurd h (Nat.not_lt_zero _)) (fun t' a b => ⟨(b3 t' a b).1, (b3 t' a b).2.1⟩) (fun t' _ a b => b3 t' a b) ?_ (fun σ3 o2 o4 hM => ?_)
      · have := wb_lt (r := r) (n := n) h4
        show 0 + wb r n 0 < 2 ^ 30
        have e4 : 42 ^ 4 = 3111696 := by decide
        omega
      · rw [show pos r 0 = 0 from rfl, show nI 0 - 1 = (-1 : Int32) by decide]
        refine g_162_91 (br_t (by decide) (br_t (by decide) (g_162_81 (br_t rfl (fin σ3 _ _ _ _ _ hM.2.1 hM.2.2.1 (fun i hi => ?_) hM.2.2.2 rfl)))))
        rw [hM.1]
        exact row_out hi
    · refine g_162_81 (br_t rfl (fin σ2 _ _ _ _ A00 (fun a y1 y2 y3 => b1 a y2) (fun j y1 y2 y3 => by rw [b1 60 (by decide)]) b3 (rel0 σ2 (by rw [b1 60 (by decide), up_self])) ?_))
      obtain ⟨t', z1, z2, z3⟩ := b2
      exact (goM_none n 0 _ _ (by omega) ⟨t', by omega, z1, z2, z3⟩).symm
  · refine hl h4 σ1 (fun a y1 y2 y3 => by rw [a1 a y1 y2 y3, up_ne y1]) (fun j y1 => by rw [a2 j y1, up_off y1])
