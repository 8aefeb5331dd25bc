/-! the memory behind the constructors: a fixed shape, ints in it -/
abbrev Mem : Type := Nat → Nat → Int32
abbrev MQ1 : Type := List MV → Mem → Prop
abbrev Shp : Type := (Nat × List (Option Nat)) ⊕ (Nat ⊕ (Nat × List Nat))
def m_pl (a : Nat) : List Shp := [.inl (3, [some (a + 1), some (a + 2), some (a + 3), none, none, none, none, none, none, none, none, none]), .inr (.inl 42), .inr (.inl 42), .inr (.inl 42)]
def m_sht (a : Nat) : List Shp := [.inl (5, [some (a + 1), none, none]), .inr (.inl 6)]
def m_sh : List Shp := [.inl (6, [some 1, some 3, some 4, some 24, some 51, none]), .inl (0, [some 2]), .inr (.inl 81), .inl (2, [some 1]), .inl (4, [some 1, some 3, some 5, some 22, some 23, none, none, none, none, none]), .inr (.inr (2, [6, 10, 14, 18]))] ++ m_pl 6 ++ m_pl 10 ++ m_pl 14 ++ m_pl 18 ++
  [.inr (.inl 6), .inr (.inl 6), .inl (1, [some 25, none, none]), .inr (.inr (3, (List.range 25).map (fun i => 26 + i)))] ++ List.replicate 25 (.inr (.inl 81)) ++ [.inr (.inr (1, [52, 54, 56, 58]))] ++ m_sht 52 ++ m_sht 54 ++ m_sht 56 ++ m_sht 58 ++
  [.inl (7, [some 61, some 62, none, some 63, some 64, some 65, none, some 66, some 67, none, some 68, some 69, none, none, none]), .inr (.inl 86), .inr (.inl 2150), .inr (.inl 4), .inr (.inl 4), .inr (.inl 24), .inr (.inl 6), .inr (.inl 8), .inr (.inl 16), .inr (.inl 16)]
def m_f1 (σ : Mem) (a j : Nat) (f : Option Nat) : MV := match f with
  | none => .inl (σ a j)
  | some r => .inr (some r)
def m_fv (σ : Mem) (a : Nat) (fs : List (Option Nat)) : List MV := fs.mapIdx (m_f1 σ a)
def m_cv (σ : Mem) (a : Nat) (e : Shp) : MC := match e with
  | .inl o => .inl (o.1, m_fv σ a o.2)
  | .inr (.inl n) => .inr (.inl ((List.range n).map (σ a)))
  | .inr (.inr q) => .inr (.inr (q.1, q.2.map some))
def hp (σ : Mem) : MH := m_sh.mapIdx (m_cv σ)
theorem m_sh_len : m_sh.length = 70 := by decide +kernel
theorem hp_get {σ : Mem} {a : Nat} {e : Shp} (h : m_sh[a]? = some e) : (hp σ)[a]? = some (m_cv σ a e) := by
  unfold hp
  rw [List.getElem?_mapIdx, h]
  rfl
theorem hp_cell {σ : Mem} {a : Nat} {e : Shp} (h : m_sh[a]? = some e) : m_cell (hp σ) a = some (m_cv σ a e) := by
  unfold m_cell
  have hl : a < 70 := by
    have := (List.getElem?_eq_some_iff.mp h).1
    rwa [m_sh_len] at this
  rw [if_neg (show ¬ a = m_scr by unfold m_scr; omega)]
  exact hp_get h
def up (σ : Mem) (a j : Nat) (v : Int32) : Mem := fun a' j' => if a' = a ∧ j' = j then v else σ a' j'
def upr (σ : Mem) (a : Nat) (f : Nat → Int32) : Mem := fun a' j' => if a' = a then f j' else σ a' j'
theorem m_fv_get {σ : Mem} {a j : Nat} {fs : List (Option Nat)} {f : Option Nat} (h : fs[j]? = some f) : (m_fv σ a fs)[j]? = some (m_f1 σ a j f) := by
  unfold m_fv
  rw [List.getElem?_mapIdx, h]
  rfl
/-- a cell that is written anew is the memory's, written anew -/
theorem hp_set {σ σ' : Mem} {a : Nat} {e : Shp} {x : MC} (h : m_sh[a]? = some e) (ho : ∀ a', a' ≠ a → σ' a' = σ a') (hx : x = m_cv σ' a e) : (hp σ).set a x = hp σ' := by
  apply List.ext_getElem?
  intro k
  by_cases hk : k = a
  · subst hk
    have hl : k < (hp σ).length := by
      unfold hp
      rw [List.length_mapIdx]
      exact (List.getElem?_eq_some_iff.mp h).1
    rw [List.getElem?_set_self hl, hp_get h, hx]
  · rw [List.getElem?_set_ne (Ne.symm hk)]
    unfold hp
    rw [List.getElem?_mapIdx, List.getElem?_mapIdx]
    cases hc : m_sh[k]? with
    | none => rfl
    | some q =>
      simp only [Option.map_some]
      congr 1
      rcases q with o | n | q
      · have e1 : m_f1 σ' k = m_f1 σ k := by
          funext j f
          unfold m_f1
          rw [ho k hk]
        simp only [m_cv, m_fv]
        rw [e1]
      · simp only [m_cv]
        rw [ho k hk]
      · rfl
theorem hp_putf {σ : Mem} {a j ci : Nat} {fs : List (Option Nat)} {v : Int32} (h : m_sh[a]? = some (.inl (ci, fs))) (hf : fs[j]? = some none) : (hp σ).set a (.inl (ci, (m_fv σ a fs).set j (.inl v))) = hp (up σ a j v) := by
  refine hp_set h (fun a' ha => ?_) ?_
  · funext j'
    unfold up
    rw [if_neg (fun q => ha q.1)]
  · show _ = Sum.inl (ci, m_fv _ a fs)
    congr 2
    apply List.ext_getElem?
    intro k
    have hj : j < (m_fv σ a fs).length := by
      unfold m_fv
      rw [List.length_mapIdx]
      exact (List.getElem?_eq_some_iff.mp hf).1
    by_cases hk : k = j
    · subst hk
      rw [List.getElem?_set_self hj, m_fv_get hf]
      simp [up, m_f1]
    · rw [List.getElem?_set_ne (Ne.symm hk)]
      unfold m_fv
      rw [List.getElem?_mapIdx, List.getElem?_mapIdx]
      cases hc : fs[k]? with
      | none => rfl
      | some f =>
        cases f with
        | none => simp [up, hk, m_f1]
        | some r => rfl
theorem hp_iast {σ : Mem} {a j n : Nat} {v : Int32} (h : m_sh[a]? = some (.inr (.inl n))) (hj : j < n) : (hp σ).set a (.inr (.inl (((List.range n).map (σ a)).set j v))) = hp (up σ a j v) := by
  refine hp_set h (fun a' ha => ?_) ?_
  · funext j'
    unfold up
    rw [if_neg (fun q => ha q.1)]
  · show _ = Sum.inr (Sum.inl ((List.range n).map _))
    congr 2
    apply List.ext_getElem?
    intro k
    have hl : j < ((List.range n).map (σ a)).length := by simp; exact hj
    by_cases hk : k = j
    · subst hk
      rw [List.getElem?_set_self hl, List.getElem?_map, List.getElem?_range hj]
      simp [up]
    · rw [List.getElem?_set_ne (Ne.symm hk), List.getElem?_map, List.getElem?_map]
      cases hc : (List.range n)[k]? with
      | none => rfl
      | some f =>
        have : f = k := by
          have h2 := List.getElem?_eq_some_iff.mp hc
          obtain ⟨h3, h4⟩ := h2
          rw [List.getElem_range] at h4
          exact h4.symm
        subst this
        simp [up, hk]
theorem hp_copy {σ : Mem} {a a1 n n1 sp dp q : Nat} (h : m_sh[a]? = some (.inr (.inl n))) (h1 : m_sh[a1]? = some (.inr (.inl n1))) (hs : sp + q ≤ n) : (hp σ).set a1 (.inr (.inl (m_cpy ((List.range n).map (σ a)) ((List.range n1).map (σ a1)) sp dp q))) = hp (upr σ a1 (fun k => if dp ≤ k ∧ k < dp + q then σ a (sp + (k - dp)) else σ a1 k)) := by
  refine hp_set h1 (fun a' ha => ?_) ?_
  · funext j'
    unfold upr
    rw [if_neg ha]
  · show _ = Sum.inr (Sum.inl ((List.range n1).map _))
    congr 2
    unfold m_cpy
    rw [List.length_map, List.length_range]
    apply List.map_congr_left
    intro k hk
    have hk' := List.mem_range.mp hk
    unfold upr
    rw [if_pos rfl]
    dsimp only
    by_cases hc : dp ≤ k ∧ k < dp + q
    · rw [if_pos hc, if_pos hc, List.getD_eq_getElem?_getD, List.getElem?_map, List.getElem?_range (by omega)]
      rfl
    · rw [if_neg hc, if_neg hc, List.getD_eq_getElem?_getD, List.getElem?_map, List.getElem?_range hk']
      rfl
