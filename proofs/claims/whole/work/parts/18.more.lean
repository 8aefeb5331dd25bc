def isPl (q f s m : Nat) : Prop := m_sh[q]? = some (.inl (3, [some f, some s, some m, none, none, none, none, none, none, none, none, none])) ∧ m_sh[f]? = some (.inr (.inl 42)) ∧ m_sh[s]? = some (.inr (.inl 42)) ∧ m_sh[m]? = some (.inr (.inl 42))
def isSt (q n : Nat) : Prop := m_sh[q]? = some (.inl (5, [some n, none, none])) ∧ m_sh[n]? = some (.inr (.inl 6))
theorem isPl_at {i : Nat} (h : i < 4) : isPl (6 + 4 * i) (7 + 4 * i) (8 + 4 * i) (9 + 4 * i) ∧ ([6, 10, 14, 18] : List Nat)[i]? = some (6 + 4 * i) := by
  match i, h with
  | 0, _ => exact ⟨⟨rfl, rfl, rfl, rfl⟩, rfl⟩
  | 1, _ => exact ⟨⟨rfl, rfl, rfl, rfl⟩, rfl⟩
  | 2, _ => exact ⟨⟨rfl, rfl, rfl, rfl⟩, rfl⟩
  | 3, _ => exact ⟨⟨rfl, rfl, rfl, rfl⟩, rfl⟩
theorem isSt_at {i : Nat} (h : i < 4) : isSt (52 + 2 * i) (53 + 2 * i) ∧ ([52, 54, 56, 58] : List Nat)[i]? = some (52 + 2 * i) := by
  match i, h with
  | 0, _ => exact ⟨⟨rfl, rfl⟩, rfl⟩
  | 1, _ => exact ⟨⟨rfl, rfl⟩, rfl⟩
  | 2, _ => exact ⟨⟨rfl, rfl⟩, rfl⟩
  | 3, _ => exact ⟨⟨rfl, rfl⟩, rfl⟩
theorem sh_row0 : ∀ j ∈ List.range 25, m_sh[26 + j]? = some (.inr (.inl 81)) ∧ ((List.range 25).map (fun i => 26 + i))[j]? = some (26 + j) := by decide +kernel
theorem sh_row {j : Nat} (h : j < 25) : m_sh[26 + j]? = some (.inr (.inl 81)) := (sh_row0 j (List.mem_range.mpr h)).1
theorem sh_rows {j : Nat} (h : j < 25) : ((List.range 25).map (fun i => 26 + i))[j]? = some (26 + j) := (sh_row0 j (List.mem_range.mpr h)).2
theorem m_sw {x lo : Int32} {t : Nat} {ts : List Nat} (h1 : 0 ≤ lo.toInt) (h2 : lo.toInt < 1000) (hn : ts.length < 1000) : (∃ j, x = lo + nI j ∧ j < ts.length ∧ m_swt t lo ts x = ts.getD j t) ∨ (m_swt t lo ts x = t ∧ ∀ j : Nat, j < ts.length → ¬ x = lo + nI j) := by
  have e : ∀ j : Nat, j < ts.length → (lo + nI j).toInt = lo.toInt + j := fun j hj => by
    rw [Int32.toInt_add, nI_toInt (by omega)]
    exact Int.bmod_eq_of_le (by omega) (by omega)
  by_cases hl : x.toInt < lo.toInt
  · refine Or.inr ⟨if_pos hl, fun j hj hx => ?_⟩
    have := e j hj
    rw [← hx] at this
    omega
  · by_cases hj : (x.toInt - lo.toInt).toNat < ts.length
    · refine Or.inl ⟨(x.toInt - lo.toInt).toNat, Int32.toInt_inj.mp ?_, hj, if_neg hl⟩
      rw [e _ hj]
      omega
    · refine Or.inr ⟨?_, fun j hj2 hx => ?_⟩
      · unfold m_swt
        rw [if_neg hl, List.getD_eq_getElem?_getD, List.getElem?_eq_none (by omega)]
        rfl
      · have := e j hj2
        rw [← hx] at this
        omega
section EV2
variable {S : Nat × (Nat → Int32)} {d y k : Nat} {ls : ML} {st : List MV} {σ : Mem} {Q : MQ1} {cd : List MI}
theorem e_scr {a z j : Nat} {f : Int32} {ts : List Nat} {i : Int32} (hc : m_code y = cd) (hi : cd[k]? = some (15, a, z, f, ts)) (hj : i = nI j) (hl : j < S.1) (hS : S.1 < 10000) (kk : Ev S d y (k + 1) ls (.inl (S.2 j) :: st) σ Q) : Ev S d y k ls (.inl i :: .inr (some m_scr) :: st) σ Q := by
  obtain ⟨h1, h2⟩ := m_nI_cl hj hl hS
  refine e_next hc hi ?_ kk
  show s_iald S k ls (.inl i :: .inr (some m_scr) :: st) (hp σ) = _
  unfold s_iald
  dsimp only
  rw [if_neg h1, if_pos rfl, h2, if_pos hl]
  rfl
theorem e_slen {a z : Nat} {f : Int32} {ts : List Nat} (hc : m_code y = cd) (hi : cd[k]? = some (19, a, z, f, ts)) (kk : Ev S d y (k + 1) ls (.inl (Int32.ofNat S.1) :: st) σ Q) : Ev S d y k ls (.inr (some m_scr) :: st) σ Q := by
  refine e_next hc hi ?_ kk
  show s_alen S k ls (.inr (some m_scr) :: st) (hp σ) = _
  unfold s_alen
  dsimp only
  rw [if_pos rfl]
  rfl
end EV2
