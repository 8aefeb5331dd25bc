/-! the small machine's heap as cells of the real one, from address b on; the script lies at sb -/
def m_ad (b sb a : Nat) : Nat := if a = m_scr then sb else b + a
def m_v (b sb : Nat) (v : MV) : Value := match v with
  | .inl x => .int x
  | .inr none => .null
  | .inr (some a) => .ref (m_ad b sb a)
def m_e (b sb : Nat) (tc : Nat → ClassId) (e : MC) : va_E := match e with
  | .inl o => .inr (o.1, o.2.map (m_v b sb))
  | .inr (.inl l) => .inl (tc 0, l.length, .inl (fun j => l.getD j 0))
  | .inr (.inr q) => .inl (tc q.1, q.2.length, .inr (.inr (.inr (.inr (fun j => (q.2.getD j none).map (m_ad b sb))))))
def m_P (D : va_G) (tc : Nat → ClassId) (b sb : Nat) (h : MH) (H : Heap) : Prop := H.size = b + h.length ∧ ∀ (k : Nat) (e : MC), h[k]? = some e → va_at D m_cl (b + k, m_e b sb tc e) H
theorem m_cell_some {h : MH} {a : Nat} {e : MC} (q : m_cell h a = some e) : a ≠ m_scr ∧ h[a]? = some e := by
  unfold m_cell at q
  split at q
  · cases q
  · exact ⟨by assumption, q⟩
theorem m_ad_ne {b sb a : Nat} (h : a ≠ m_scr) : m_ad b sb a = b + a := if_neg h
theorem m_v_cat (b sb : Nat) (v : MV) : (m_v b sb v).category = 1 := by
  rcases v with x | (_ | a) <;> rfl
theorem m_sum (b sb : Nat) (st : List MV) : ((st.map (m_v b sb)).map fun v => v.category).sum = st.length := by
  induction st with
  | nil => rfl
  | cons v r ih =>
    simp only [List.map_cons, List.sum_cons, List.length_cons, m_v_cat]
    omega
theorem m_P.one {D : va_G} {tc : Nat → ClassId} {b sb : Nat} {h : MH} {H : Heap} {k : Nat} {e : MC} (hP : m_P D tc b sb h H) (q : h[k]? = some e) : va_P D m_cl [(b + k, m_e b sb tc e)] H := by
  intro j x hx
  have hz : j < 1 := (List.getElem?_eq_some_iff.mp hx).1
  rw [show j = 0 by omega] at hx
  cases hx
  exact hP.2 k e q
theorem m_P.set {D : va_G} {tc : Nat → ClassId} {b sb : Nat} {h : MH} {H H1 : Heap} {k : Nat} {e e' : MC} (hP : m_P D tc b sb h H) (q : h[k]? = some e) (hz : H1.size = H.size) (ho : ∀ x : Nat, x ≠ b + k → H1[x]? = H[x]?) (hn : va_at D m_cl (b + k, m_e b sb tc e') H1) : m_P D tc b sb (h.set k e') H1 := by
  refine ⟨by rw [hz, List.length_set]; exact hP.1, fun j x hx => ?_⟩
  by_cases hj : j = k
  · subst hj
    have hl : j < h.length := (List.getElem?_eq_some_iff.mp q).1
    rw [List.getElem?_set_self hl] at hx
    cases hx
    exact hn
  · rw [List.getElem?_set_ne (Ne.symm hj)] at hx
    exact (hP.2 j x hx).kept (ho _ (by show b + j ≠ b + k; omega))
theorem m_P.push {D : va_G} {tc : Nat → ClassId} {b sb : Nat} {h : MH} {H H1 : Heap} {e : MC} (hP : m_P D tc b sb h H) (hz : H1.size = H.size + 1) (ho : ∀ x : Nat, x < H.size → H1[x]? = H[x]?) (hn : va_at D m_cl (b + h.length, m_e b sb tc e) H1) : m_P D tc b sb (h ++ [e]) H1 := by
  refine ⟨by rw [hz, hP.1, List.length_append]; rfl, fun j x hx => ?_⟩
  by_cases hj : j < h.length
  · rw [List.getElem?_append_left hj] at hx
    exact (hP.2 j x hx).kept (ho _ (by show b + j < H.size; rw [hP.1]; omega))
  · rw [List.getElem?_append_right (by omega)] at hx
    have h0 : j - h.length < 1 := (List.getElem?_eq_some_iff.mp hx).1
    rw [show j - h.length = 0 by omega] at hx
    cases hx
    rw [show j = h.length by omega]
    exact hn
def m_tys (tc : Nat → ClassId) : List (ClassId × FieldType) := [(tc 0, .int), (tc 1, .object "LessonSpiral$Sheet"), (tc 2, .object "LessonSpiral$Place"), (tc 3, .array .int)]
def m_nest (w : Cond) : Bool := match w with
  | .fieldLinkNest _ _ _ _ _ _ => true
  | .methodLinkNest _ _ _ _ => true
  | _ => false
def m_St (D : va_G) (tc : Nat → ClassId) (s : State) : Prop := va_K D m_cl (m_tys tc) s ∧ (∀ w ∈ lw_tbl, m_nest w = true → va_Nw w s) ∧ (∀ t : FieldType, Cond.arrayOver t ∈ lw_tbl → (Cond.arrayOver t).before #[] s = true)
/-- locals -/
def m_L (b sb nL : Nat) (ls : ML) (la : Array Slot) : Prop := la.size = nL ∧ ls.length = nL ∧ lv_wf la ∧ ∀ (i : Nat) (v : MV), ls[i]? = some (some v) → la[i]? = some (.val (m_v b sb v))
def m_prs (b sb : Nat) (ls : ML) : List (Nat × Value) := (List.range ls.length).filterMap fun i => match ls[i]? with
  | some (some v) => some (i, m_v b sb v)
  | _ => none
theorem m_prs_mem {b sb : Nat} {ls : ML} {q : Nat × Value} : q ∈ m_prs b sb ls ↔ ∃ v : MV, ls[q.1]? = some (some v) ∧ q.2 = m_v b sb v := by
  unfold m_prs
  rw [List.mem_filterMap]
  constructor
  · rintro ⟨i, -, h⟩
    split at h
    · rename_i v hv
      cases h
      exact ⟨v, hv, rfl⟩
    · cases h
  · rintro ⟨v, hv, h2⟩
    refine ⟨q.1, List.mem_range.mpr (List.getElem?_eq_some_iff.mp hv).1, ?_⟩
    rw [hv]
    simp only
    rw [← h2]
theorem m_L.has {b sb nL : Nat} {ls : ML} {la : Array Slot} (h : m_L b sb nL ls la) : lv_has la nL (m_prs b sb ls) := by
  refine ⟨h.1, h.2.2.1, fun q hq => ?_⟩
  obtain ⟨v, hv, h2⟩ := m_prs_mem.mp hq
  rw [h2]
  exact h.2.2.2 _ _ hv
theorem m_L.store {b sb nL : Nat} {ls : ML} {la la' : Array Slot} {i : Nat} {v : MV} (h : m_L b sb nL ls la) (hl : lv_has la' nL ((i, m_v b sb v) :: (m_prs b sb ls).filter (fun q => !(q.1 == i) && !(q.1 + 1 == i && q.2.category == 2)))) : m_L b sb nL (ls.set i (some v)) la' := by
  refine ⟨hl.1, by rw [List.length_set]; exact h.2.1, hl.2.1, fun j x hx => ?_⟩
  by_cases hj : j = i
  · subst hj
    have hx2 := hx
    rw [List.getElem?_set] at hx2
    simp only [if_true] at hx2
    split at hx2
    · cases hx2
      exact hl.2.2 (j, m_v b sb v) List.mem_cons_self
    · cases hx2
  · rw [List.getElem?_set_ne (Ne.symm hj)] at hx
    refine hl.2.2 (j, m_v b sb x) (List.mem_cons_of_mem _ (List.mem_filter.mpr ⟨m_prs_mem.mpr ⟨x, hx, rfl⟩, ?_⟩))
    simp [hj, m_v_cat]
theorem m_L.entry {b sb nL : Nat} (As : List MV) (hn : As.length ≤ nL) : ∃ la : Array Slot, (∀ m : MethodId, entryFrame m (As.map (m_v b sb)).toArray nL = F0 m 0 la []) ∧ m_L b sb nL (As.map some ++ List.replicate (nL - As.length) none) la := by
  have hc : ∀ v ∈ As.map (m_v b sb), v.category = 1 := fun v hv => by
    obtain ⟨x, -, rfl⟩ := List.mem_map.mp hv
    exact m_v_cat b sb x
  refine ⟨_, fun m => entry_eq m (As.map (m_v b sb)) hc nL, ?_⟩
  refine ⟨by simp; omega, by simp; omega, ⟨fun i v hv h2 => ?_, fun i hi => ?_⟩, fun i v hv => ?_⟩
  · exfalso
    rw [List.getElem?_toArray] at hv
    by_cases hi : i < As.length
    · rw [List.getElem?_append_left (by simp; exact hi)] at hv
      simp only [List.map_map, List.getElem?_map] at hv
      rw [List.getElem?_eq_getElem hi] at hv
      simp at hv
      rw [← hv, m_v_cat] at h2
      cases h2
    · rw [List.getElem?_append_right (by simp; omega), List.getElem?_replicate] at hv
      split at hv <;> cases hv
  · exfalso
    rw [List.getElem?_toArray] at hi
    by_cases h1 : i < As.length
    · rw [List.getElem?_append_left (by simp; exact h1)] at hi
      simp only [List.map_map, List.getElem?_map] at hi
      rw [List.getElem?_eq_getElem h1] at hi
      simp at hi
    · rw [List.getElem?_append_right (by simp; omega), List.getElem?_replicate] at hi
      split at hi <;> cases hi
  · rw [List.getElem?_toArray]
    by_cases h1 : i < As.length
    · rw [List.getElem?_append_left (by simp; exact h1)] at hv ⊢
      simp only [List.map_map, List.getElem?_map] at hv ⊢
      rw [List.getElem?_eq_getElem h1] at hv ⊢
      simp at hv ⊢
      rw [hv]
    · rw [List.getElem?_append_right (by simp; omega), List.getElem?_replicate] at hv
      split at hv <;> cases hv
