/-! the step of the small machine is a step of the real one -/
def m_csz (e : MC) : Nat := match e with
  | .inl o => o.2.length
  | .inr (.inl q) => q.length
  | .inr (.inr q) => q.2.length
def m_hsz (h : MH) : Nat := (h.map m_csz).sum
theorem m_hsz_app (h g : MH) : m_hsz (h ++ g) = m_hsz h + m_hsz g := by simp [m_hsz]
theorem m_hsz_set : ∀ (h : MH) (a : Nat) (e e' : MC), h[a]? = some e → m_csz e' = m_csz e → m_hsz (h.set a e') = m_hsz h
  | [], a, e, e', h1, _ => by simp at h1
  | x :: r, 0, e, e', h1, h2 => by
    simp only [List.getElem?_cons_zero, Option.some.injEq] at h1
    subst h1
    simp [m_hsz, h2]
  | x :: r, a + 1, e, e', h1, h2 => by
    simp only [List.getElem?_cons_succ] at h1
    have := m_hsz_set r a e e' h1 h2
    simp only [m_hsz, List.set_cons_succ, List.map_cons, List.sum_cons] at this ⊢
    omega
theorem m_nx_inj {k : Nat} {ls : ML} {st : List MV} {h : MH} {q : MS} (e : m_nx k ls st h = .inl (.inl q)) : q = (k + 1, ls, st, h) := (Sum.inl.inj (Sum.inl.inj e)).symm
theorem m_nx_call {k : Nat} {ls : ML} {st : List MV} {h : MH} {q : Nat × List MV × List MV} (e : m_nx k ls st h = .inl (.inr q)) : False := by
  unfold m_nx at e
  cases e
theorem m_bad_ne {q : MS ⊕ (Nat × List MV × List MV)} (e : m_bad = .inl q) : False := by
  unfold m_bad at e
  cases e
def m_At (p : Program) (R : Room) (s : State) (m : MethodId) (args : Array Value) (meth : Method) (c : Code) (S : Nat × (Nat → Int32)) (D : va_G) (tc : Nat → ClassId) (b sb y d : Nat) : Prop :=
  p.tables.exec = Jvm.exec ∧ c.code = m_bs y ∧ c.maxLocals = m_mL y ∧ s.vm.findClass (m_y y).cls = some m.cls ∧ (∀ w ∈ lw_tbl, goodWord w = true → w.before args s = true) ∧ meth.name = (m_y y).name ∧ m_St D tc s ∧ (va_X sb S.1 S.2 s s.heap ∧ sb < b ∧ b ≤ s.heap.size) ∧ (d ≤ R.frames ∧ 64 * d ≤ R.locals)
def m_K (p : Program) (l : Launch) (e : Env) (R : Room) (s : State) (m : MethodId) (args : Array Value) (below : List Frame) (meth : Method) (c : Code) (Q : State → Prop) (D : va_G) (tc : Nat → ClassId) (b sb y : Nat) (h : MH) (cells slots : Nat) (q : MS) : Prop :=
  ∀ (H1 : Heap) (locs1 : List Loc) (la1 : Array Slot) (cells1 slots1 : Nat), m_P D tc b sb q.2.2.2 H1 → va_S (fun x => b ≤ x) s.heap H1 locs1 → m_L b sb (m_mL y) q.2.1 la1 → cells1 + h.length = cells + q.2.2.2.length → slots1 + m_hsz h = slots + m_hsz q.2.2.2 → W p l e R s m args below meth c H1 locs1 cells1 slots1 Q (F0 m (m_pc y q.1) la1 (q.2.2.1.map (m_v b sb)))
section MO
variable {p : Program} {l : Launch} {e : Env} {R : Room} {s : State} {m : MethodId} {args : Array Value} {below : List Frame} {meth : Method} {c : Code} {H : Heap} {locs : List Loc} {cells slots : Nat} {Q : State → Prop}
variable {la : Array Slot} {b sb y d k : Nat} {D : va_G} {tc : Nat → ClassId} {h : MH} {st : List MV} {ls : ML} {S : Nat × (Nat → Int32)} {q : MS}
theorem o_push {v : Int32} {w : Nat} (C : m_At p R s m args meth c S D tc b sb y d) (hP : m_P D tc b sb h H) (hF : va_S (fun x => b ≤ x) s.heap H locs) (hL : m_L b sb (m_mL y) ls la) (kk : m_K p l e R s m args below meth c Q D tc b sb y h cells slots q) (hst : m_nx k ls (.inl v :: st) h = .inl (.inl q)) (hk : k_push (m_y y).cls (m_bs y) (m_pc y k) (m_pc y (k + 1)) w v = true) : W p l e R s m args below meth c H locs cells slots Q (F0 m (m_pc y k) la (st.map (m_v b sb))) := by
  obtain ⟨hx, hb, hml, hown, hT, hnm, hS, hX, hR⟩ := C
  obtain rfl := m_nx_inj hst
  exact x_push hx hb hown hT hk (kk H locs la cells slots hP hF hL rfl rfl)
theorem o_load {a : Nat} {f : Int32} (C : m_At p R s m args meth c S D tc b sb y d) (hP : m_P D tc b sb h H) (hF : va_S (fun x => b ≤ x) s.heap H locs) (hL : m_L b sb (m_mL y) ls la) (kk : m_K p l e R s m args below meth c Q D tc b sb y h cells slots q) (hst : s_load a f k ls st h = .inl (.inl q)) (hk : k_load (m_bs y) (m_pc y k) (m_pc y (k + 1)) a f = true) : W p l e R s m args below meth c H locs cells slots Q (F0 m (m_pc y k) la (st.map (m_v b sb))) := by
  obtain ⟨hx, hb, hml, hown, hT, hnm, hS, hX, hR⟩ := C
  unfold s_load at hst
  split at hst
  · rename_i v hv
    split at hst
    · rename_i hm
      obtain rfl := m_nx_inj hst
      exact x_load hx hb hL hv hm hk (kk H locs la cells slots hP hF hL rfl rfl)
    · exact (m_bad_ne hst).elim
  · exact (m_bad_ne hst).elim
theorem o_store {a : Nat} {f : Int32} (C : m_At p R s m args meth c S D tc b sb y d) (hP : m_P D tc b sb h H) (hF : va_S (fun x => b ≤ x) s.heap H locs) (hL : m_L b sb (m_mL y) ls la) (kk : m_K p l e R s m args below meth c Q D tc b sb y h cells slots q) (hst : s_store a f k ls st h = .inl (.inl q)) (hk : k_store (m_bs y) (m_pc y k) (m_pc y (k + 1)) a f = true) : W p l e R s m args below meth c H locs cells slots Q (F0 m (m_pc y k) la (st.map (m_v b sb))) := by
  obtain ⟨hx, hb, hml, hown, hT, hnm, hS, hX, hR⟩ := C
  unfold s_store at hst
  split at hst
  · split at hst
    · rename_i hm
      obtain rfl := m_nx_inj hst
      exact x_store hx hb hL hm.1 hm.2 hk (fun la' hL' => kk H locs la' cells slots hP hF hL' rfl rfl)
    · exact (m_bad_ne hst).elim
  · exact (m_bad_ne hst).elim
theorem o_iinc {a : Nat} {v : Int32} (C : m_At p R s m args meth c S D tc b sb y d) (hP : m_P D tc b sb h H) (hF : va_S (fun x => b ≤ x) s.heap H locs) (hL : m_L b sb (m_mL y) ls la) (kk : m_K p l e R s m args below meth c Q D tc b sb y h cells slots q) (hst : s_iinc a v k ls st h = .inl (.inl q)) (hk : k_iinc (m_bs y) (m_pc y k) (m_pc y (k + 1)) a v = true) : W p l e R s m args below meth c H locs cells slots Q (F0 m (m_pc y k) la (st.map (m_v b sb))) := by
  obtain ⟨hx, hb, hml, hown, hT, hnm, hS, hX, hR⟩ := C
  unfold s_iinc at hst
  split at hst
  · rename_i x hv
    obtain rfl := m_nx_inj hst
    exact x_iinc hx hb hL hv hk (fun la' hL' => kk H locs la' cells slots hP hF hL' rfl rfl)
  · exact (m_bad_ne hst).elim
theorem o_bin {w : Nat} (C : m_At p R s m args meth c S D tc b sb y d) (hP : m_P D tc b sb h H) (hF : va_S (fun x => b ≤ x) s.heap H locs) (hL : m_L b sb (m_mL y) ls la) (kk : m_K p l e R s m args below meth c Q D tc b sb y h cells slots q) (hst : s_bin w k ls st h = .inl (.inl q)) (hk : k_bin (m_bs y) (m_pc y k) (m_pc y (k + 1)) w = true) : W p l e R s m args below meth c H locs cells slots Q (F0 m (m_pc y k) la (st.map (m_v b sb))) := by
  obtain ⟨hx, hb, hml, hown, hT, hnm, hS, hX, hR⟩ := C
  unfold s_bin at hst
  split at hst
  · obtain rfl := m_nx_inj hst
    exact x_bin hx hb hk (kk H locs la cells slots hP hF hL rfl rfl)
  · exact (m_bad_ne hst).elim
theorem o_un {w : Nat} (C : m_At p R s m args meth c S D tc b sb y d) (hP : m_P D tc b sb h H) (hF : va_S (fun x => b ≤ x) s.heap H locs) (hL : m_L b sb (m_mL y) ls la) (kk : m_K p l e R s m args below meth c Q D tc b sb y h cells slots q) (hst : s_un w k ls st h = .inl (.inl q)) (hk : k_un (m_bs y) (m_pc y k) (m_pc y (k + 1)) w = true) : W p l e R s m args below meth c H locs cells slots Q (F0 m (m_pc y k) la (st.map (m_v b sb))) := by
  obtain ⟨hx, hb, hml, hown, hT, hnm, hS, hX, hR⟩ := C
  unfold s_un at hst
  split at hst
  · obtain rfl := m_nx_inj hst
    exact x_un hx hb hk (kk H locs la cells slots hP hF hL rfl rfl)
  · exact (m_bad_ne hst).elim
theorem o_dup (C : m_At p R s m args meth c S D tc b sb y d) (hP : m_P D tc b sb h H) (hF : va_S (fun x => b ≤ x) s.heap H locs) (hL : m_L b sb (m_mL y) ls la) (kk : m_K p l e R s m args below meth c Q D tc b sb y h cells slots q) (hst : s_dup k ls st h = .inl (.inl q)) (hk : k_one (m_bs y) (m_pc y k) (m_pc y (k + 1)) .dup = true) : W p l e R s m args below meth c H locs cells slots Q (F0 m (m_pc y k) la (st.map (m_v b sb))) := by
  obtain ⟨hx, hb, hml, hown, hT, hnm, hS, hX, hR⟩ := C
  obtain ⟨hd, hn⟩ := k_one_ok hk
  unfold s_dup at hst
  split at hst
  · obtain rfl := m_nx_inj hst
    have key := kk H locs la cells slots hP hF hL rfl rfl
    rw [hn] at key
    exact lv_dup hx hb hd (m_v_cat b sb _) key
  · exact (m_bad_ne hst).elim
theorem o_dup2 (C : m_At p R s m args meth c S D tc b sb y d) (hP : m_P D tc b sb h H) (hF : va_S (fun x => b ≤ x) s.heap H locs) (hL : m_L b sb (m_mL y) ls la) (kk : m_K p l e R s m args below meth c Q D tc b sb y h cells slots q) (hst : s_dup2 k ls st h = .inl (.inl q)) (hk : k_one (m_bs y) (m_pc y k) (m_pc y (k + 1)) .dup2 = true) : W p l e R s m args below meth c H locs cells slots Q (F0 m (m_pc y k) la (st.map (m_v b sb))) := by
  obtain ⟨hx, hb, hml, hown, hT, hnm, hS, hX, hR⟩ := C
  obtain ⟨hd, hn⟩ := k_one_ok hk
  unfold s_dup2 at hst
  split at hst
  · obtain rfl := m_nx_inj hst
    have key := kk H locs la cells slots hP hF hL rfl rfl
    rw [hn] at key
    exact lv_dup2_11 hx hb hd (m_v_cat b sb _) (m_v_cat b sb _) key
  · exact (m_bad_ne hst).elim
theorem o_pop (C : m_At p R s m args meth c S D tc b sb y d) (hP : m_P D tc b sb h H) (hF : va_S (fun x => b ≤ x) s.heap H locs) (hL : m_L b sb (m_mL y) ls la) (kk : m_K p l e R s m args below meth c Q D tc b sb y h cells slots q) (hst : s_pop k ls st h = .inl (.inl q)) (hk : k_one (m_bs y) (m_pc y k) (m_pc y (k + 1)) .pop = true) : W p l e R s m args below meth c H locs cells slots Q (F0 m (m_pc y k) la (st.map (m_v b sb))) := by
  obtain ⟨hx, hb, hml, hown, hT, hnm, hS, hX, hR⟩ := C
  obtain ⟨hd, hn⟩ := k_one_ok hk
  unfold s_pop at hst
  split at hst
  · obtain rfl := m_nx_inj hst
    have key := kk H locs la cells slots hP hF hL rfl rfl
    rw [hn] at key
    exact lv_pop hx hb hd (m_v_cat b sb _) key
  · exact (m_bad_ne hst).elim
theorem o_if {w t : Nat} (C : m_At p R s m args meth c S D tc b sb y d) (hP : m_P D tc b sb h H) (hF : va_S (fun x => b ≤ x) s.heap H locs) (hL : m_L b sb (m_mL y) ls la) (kk : m_K p l e R s m args below meth c Q D tc b sb y h cells slots q) (hst : s_if w t k ls st h = .inl (.inl q)) (hk : k_if (m_bs y) (m_pc y k) (m_pc y (k + 1)) w (m_pc y t) = true) : W p l e R s m args below meth c H locs cells slots Q (F0 m (m_pc y k) la (st.map (m_v b sb))) := by
  obtain ⟨hx, hb, hml, hown, hT, hnm, hS, hX, hR⟩ := C
  unfold s_if at hst
  split at hst
  · obtain rfl := (Sum.inl.inj (Sum.inl.inj hst)).symm
    have key := kk H locs la cells slots hP hF hL rfl rfl
    refine x_if hx hb hk (fun z => ?_) (fun z => ?_)
    · simp only [z, if_true] at key
      exact key
    · simp only [z, if_false] at key
      exact key
  · exact (m_bad_ne hst).elim
theorem o_icmp {w t : Nat} (C : m_At p R s m args meth c S D tc b sb y d) (hP : m_P D tc b sb h H) (hF : va_S (fun x => b ≤ x) s.heap H locs) (hL : m_L b sb (m_mL y) ls la) (kk : m_K p l e R s m args below meth c Q D tc b sb y h cells slots q) (hst : s_icmp w t k ls st h = .inl (.inl q)) (hk : k_icmp (m_bs y) (m_pc y k) (m_pc y (k + 1)) w (m_pc y t) = true) : W p l e R s m args below meth c H locs cells slots Q (F0 m (m_pc y k) la (st.map (m_v b sb))) := by
  obtain ⟨hx, hb, hml, hown, hT, hnm, hS, hX, hR⟩ := C
  unfold s_icmp at hst
  split at hst
  · obtain rfl := (Sum.inl.inj (Sum.inl.inj hst)).symm
    have key := kk H locs la cells slots hP hF hL rfl rfl
    refine x_icmp hx hb hk (fun z => ?_) (fun z => ?_)
    · simp only [z, if_true] at key
      exact key
    · simp only [z, if_false] at key
      exact key
  · exact (m_bad_ne hst).elim
theorem o_goto {t : Nat} (C : m_At p R s m args meth c S D tc b sb y d) (hP : m_P D tc b sb h H) (hF : va_S (fun x => b ≤ x) s.heap H locs) (hL : m_L b sb (m_mL y) ls la) (kk : m_K p l e R s m args below meth c Q D tc b sb y h cells slots q) (hst : (.inl (.inl (t, ls, st, h)) : MR) = .inl (.inl q)) (hk : k_goto (m_bs y) (m_pc y k) (m_pc y t) = true) : W p l e R s m args below meth c H locs cells slots Q (F0 m (m_pc y k) la (st.map (m_v b sb))) := by
  obtain ⟨hx, hb, hml, hown, hT, hnm, hS, hX, hR⟩ := C
  obtain rfl := (Sum.inl.inj (Sum.inl.inj hst)).symm
  exact x_goto hx hb hk (kk H locs la cells slots hP hF hL rfl rfl)
theorem o_switch {dd : Nat} {lo : Int32} {ts : List Nat} (C : m_At p R s m args meth c S D tc b sb y d) (hP : m_P D tc b sb h H) (hF : va_S (fun x => b ≤ x) s.heap H locs) (hL : m_L b sb (m_mL y) ls la) (kk : m_K p l e R s m args below meth c Q D tc b sb y h cells slots q) (hst : s_switch dd lo ts ls st h = .inl (.inl q)) (hk : k_switch (m_bs y) (m_pc y k) (m_pc y) dd lo ts = true) : W p l e R s m args below meth c H locs cells slots Q (F0 m (m_pc y k) la (st.map (m_v b sb))) := by
  obtain ⟨hx, hb, hml, hown, hT, hnm, hS, hX, hR⟩ := C
  unfold s_switch at hst
  split at hst
  · obtain rfl := (Sum.inl.inj (Sum.inl.inj hst)).symm
    exact x_switch hx hb hk (kk H locs la cells slots hP hF hL rfl rfl)
  · exact (m_bad_ne hst).elim
theorem o_getf {w fl ci j : Nat} (C : m_At p R s m args meth c S D tc b sb y d) (hP : m_P D tc b sb h H) (hF : va_S (fun x => b ≤ x) s.heap H locs) (hL : m_L b sb (m_mL y) ls la) (kk : m_K p l e R s m args below meth c Q D tc b sb y h cells slots q) (hst : s_getf ci j k ls st h = .inl (.inl q)) (hk : k_getf (m_y y).cls (m_bs y) (m_pc y k) (m_pc y (k + 1)) w fl ci j = true) : W p l e R s m args below meth c H locs cells slots Q (F0 m (m_pc y k) la (st.map (m_v b sb))) := by
  obtain ⟨hx, hb, hml, hown, hT, hnm, hS, hX, hR⟩ := C
  unfold s_getf at hst
  split at hst
  · split at hst
    · rename_i ci' fs ha
      split at hst
      · rename_i hc
        subst hc
        split at hst
        · rename_i v hv
          obtain rfl := m_nx_inj hst
          exact x_getf hx hb hown hT hS hP ha hv hk (kk H locs la cells slots hP hF hL rfl rfl)
        · exact (m_bad_ne hst).elim
      · exact (m_bad_ne hst).elim
    · exact (m_bad_ne hst).elim
  · exact (m_bad_ne hst).elim
theorem o_putf {w ci j : Nat} {f : Int32} (C : m_At p R s m args meth c S D tc b sb y d) (hP : m_P D tc b sb h H) (hF : va_S (fun x => b ≤ x) s.heap H locs) (hL : m_L b sb (m_mL y) ls la) (kk : m_K p l e R s m args below meth c Q D tc b sb y h cells slots q) (hst : s_putf ci j f k ls st h = .inl (.inl q)) (hk : k_putf (m_y y).cls (m_y y).name (m_bs y) (m_pc y k) (m_pc y (k + 1)) w ci j f = true) : W p l e R s m args below meth c H locs cells slots Q (F0 m (m_pc y k) la (st.map (m_v b sb))) := by
  obtain ⟨hx, hb, hml, hown, hT, hnm, hS, hX, hR⟩ := C
  unfold s_putf at hst
  split at hst
  · split at hst
    · rename_i ci' fs ha
      split at hst
      · rename_i hc
        obtain ⟨hc1, hc2, hc3⟩ := hc
        subst hc1
        obtain rfl := m_nx_inj hst
        rw [← hnm] at hk
        exact x_putf hx hb hown hT hS hP hF ha hc2 hc3 hk (fun H1 locs1 hP1 hF1 => kk H1 locs1 la cells slots hP1 hF1 hL (by simp) (by rw [m_hsz_set h _ _ _ (m_cell_some ha).2 (by simp [m_csz])]))
      · exact (m_bad_ne hst).elim
    · exact (m_bad_ne hst).elim
  · exact (m_bad_ne hst).elim
theorem o_iald (C : m_At p R s m args meth c S D tc b sb y d) (hP : m_P D tc b sb h H) (hF : va_S (fun x => b ≤ x) s.heap H locs) (hL : m_L b sb (m_mL y) ls la) (kk : m_K p l e R s m args below meth c Q D tc b sb y h cells slots q) (hst : s_iald S k ls st h = .inl (.inl q)) (hk : k_one (m_bs y) (m_pc y k) (m_pc y (k + 1)) .iaload = true) : W p l e R s m args below meth c H locs cells slots Q (F0 m (m_pc y k) la (st.map (m_v b sb))) := by
  obtain ⟨hx, hb, hml, hown, hT, hnm, hS, hX, hR⟩ := C
  unfold s_iald at hst
  split at hst
  · split at hst
    · exact (m_bad_ne hst).elim
    · rename_i hi
      split at hst
      · rename_i ha
        subst ha
        split at hst
        · rename_i hlt
          obtain rfl := m_nx_inj hst
          exact x_scr hx hb hX.1 hX.2.1 hX.2.2 hF hi hlt hk (kk H locs la cells slots hP hF hL rfl rfl)
        · exact (m_bad_ne hst).elim
      · rename_i hne
        split at hst
        · rename_i li ha
          split at hst
          · rename_i x hv
            obtain rfl := m_nx_inj hst
            exact x_iald hx hb hS hP hne ha hi hv hk (kk H locs la cells slots hP hF hL rfl rfl)
          · exact (m_bad_ne hst).elim
        · exact (m_bad_ne hst).elim
  · exact (m_bad_ne hst).elim
theorem o_iast (C : m_At p R s m args meth c S D tc b sb y d) (hP : m_P D tc b sb h H) (hF : va_S (fun x => b ≤ x) s.heap H locs) (hL : m_L b sb (m_mL y) ls la) (kk : m_K p l e R s m args below meth c Q D tc b sb y h cells slots q) (hst : s_iast k ls st h = .inl (.inl q)) (hk : k_one (m_bs y) (m_pc y k) (m_pc y (k + 1)) .iastore = true) : W p l e R s m args below meth c H locs cells slots Q (F0 m (m_pc y k) la (st.map (m_v b sb))) := by
  obtain ⟨hx, hb, hml, hown, hT, hnm, hS, hX, hR⟩ := C
  unfold s_iast at hst
  split at hst
  · split at hst
    · rename_i li ha
      split at hst
      · rename_i hc
        obtain rfl := m_nx_inj hst
        exact x_iast hx hb hS hP hF ha hc.1 hc.2 hk (fun H1 locs1 hP1 hF1 => kk H1 locs1 la cells slots hP1 hF1 hL (by simp) (by rw [m_hsz_set h _ _ _ (m_cell_some ha).2 (by simp [m_csz])]))
      · exact (m_bad_ne hst).elim
    · exact (m_bad_ne hst).elim
  · exact (m_bad_ne hst).elim
theorem o_aald (C : m_At p R s m args meth c S D tc b sb y d) (hP : m_P D tc b sb h H) (hF : va_S (fun x => b ≤ x) s.heap H locs) (hL : m_L b sb (m_mL y) ls la) (kk : m_K p l e R s m args below meth c Q D tc b sb y h cells slots q) (hst : s_aald k ls st h = .inl (.inl q)) (hk : k_one (m_bs y) (m_pc y k) (m_pc y (k + 1)) .aaload = true) : W p l e R s m args below meth c H locs cells slots Q (F0 m (m_pc y k) la (st.map (m_v b sb))) := by
  obtain ⟨hx, hb, hml, hown, hT, hnm, hS, hX, hR⟩ := C
  unfold s_aald at hst
  split at hst
  · split at hst
    · exact (m_bad_ne hst).elim
    · rename_i hi
      split at hst
      · rename_i kd li ha
        split at hst
        · rename_i hkd
          split at hst
          · rename_i x hv
            obtain rfl := m_nx_inj hst
            exact x_aald hx hb hS hP ha hkd hi hv hk (kk H locs la cells slots hP hF hL rfl rfl)
          · exact (m_bad_ne hst).elim
        · exact (m_bad_ne hst).elim
      · exact (m_bad_ne hst).elim
  · exact (m_bad_ne hst).elim
theorem o_aast (C : m_At p R s m args meth c S D tc b sb y d) (hP : m_P D tc b sb h H) (hF : va_S (fun x => b ≤ x) s.heap H locs) (hL : m_L b sb (m_mL y) ls la) (kk : m_K p l e R s m args below meth c Q D tc b sb y h cells slots q) (hst : s_aast k ls st h = .inl (.inl q)) (hk : k_one (m_bs y) (m_pc y k) (m_pc y (k + 1)) .aastore = true) : W p l e R s m args below meth c H locs cells slots Q (F0 m (m_pc y k) la (st.map (m_v b sb))) := by
  obtain ⟨hx, hb, hml, hown, hT, hnm, hS, hX, hR⟩ := C
  unfold s_aast at hst
  split at hst
  · split at hst
    · rename_i kd li ci fs ha hv
      split at hst
      · rename_i hc
        obtain rfl := m_nx_inj hst
        exact x_aast hx hb hS hP hF ha hv hc.1 hc.2.1 hc.2.2.1 hc.2.2.2 hk (fun H1 locs1 hP1 hF1 => kk H1 locs1 la cells slots hP1 hF1 hL (by simp) (by rw [m_hsz_set h _ _ _ (m_cell_some ha).2 (by simp [m_csz])]))
      · exact (m_bad_ne hst).elim
    · exact (m_bad_ne hst).elim
  · exact (m_bad_ne hst).elim
theorem o_alen (C : m_At p R s m args meth c S D tc b sb y d) (hP : m_P D tc b sb h H) (hF : va_S (fun x => b ≤ x) s.heap H locs) (hL : m_L b sb (m_mL y) ls la) (kk : m_K p l e R s m args below meth c Q D tc b sb y h cells slots q) (hst : s_alen S k ls st h = .inl (.inl q)) (hk : k_one (m_bs y) (m_pc y k) (m_pc y (k + 1)) .arraylength = true) : W p l e R s m args below meth c H locs cells slots Q (F0 m (m_pc y k) la (st.map (m_v b sb))) := by
  obtain ⟨hx, hb, hml, hown, hT, hnm, hS, hX, hR⟩ := C
  unfold s_alen at hst
  split at hst
  · split at hst
    · rename_i ha
      subst ha
      obtain rfl := m_nx_inj hst
      exact x_slen hx hb hX.1 hX.2.1 hX.2.2 hF hk (kk H locs la cells slots hP hF hL rfl rfl)
    · exact (m_bad_ne hst).elim
  · exact (m_bad_ne hst).elim
theorem o_new {w0 w1 w2 ci : Nat} (C : m_At p R s m args meth c S D tc b sb y d) (hP : m_P D tc b sb h H) (hF : va_S (fun x => b ≤ x) s.heap H locs) (hL : m_L b sb (m_mL y) ls la) (hc : cells + q.2.2.2.length ≤ R.cells + h.length) (hs : slots + m_hsz q.2.2.2 ≤ R.slots + m_hsz h) (kk : m_K p l e R s m args below meth c Q D tc b sb y h cells slots q) (hst : s_new ci k ls st h = .inl (.inl q)) (hk : k_new (m_y y).cls (m_bs y) (m_pc y k) (m_pc y (k + 1)) w0 w1 w2 ci = true) : W p l e R s m args below meth c H locs cells slots Q (F0 m (m_pc y k) la (st.map (m_v b sb))) := by
  obtain ⟨hx, hb, hml, hown, hT, hnm, hS, hX, hR⟩ := C
  unfold s_new at hst
  split at hst
  · rename_i hn
    obtain rfl := m_nx_inj hst
    simp only [m_hsz_app, List.length_append, List.length_cons, List.length_nil] at hc hs
    have e1 : m_hsz [.inl (ci, m_def.getD ci [])] = (m_def.getD ci []).length := by simp [m_hsz, m_csz]
    rw [e1] at hs
    exact x_new hx hb hown hT hS hP hF hn (by omega) (by omega) hk (fun H1 hP1 hF1 => kk H1 locs la (cells + 1) _ hP1 hF1 hL (by simp; omega) (by show _ = _ + m_hsz (h ++ _); rw [m_hsz_app, e1]; omega))
  · exact (m_bad_ne hst).elim
theorem o_newa (C : m_At p R s m args meth c S D tc b sb y d) (hP : m_P D tc b sb h H) (hF : va_S (fun x => b ≤ x) s.heap H locs) (hL : m_L b sb (m_mL y) ls la) (hc : cells + q.2.2.2.length ≤ R.cells + h.length) (hs : slots + m_hsz q.2.2.2 ≤ R.slots + m_hsz h) (kk : m_K p l e R s m args below meth c Q D tc b sb y h cells slots q) (hst : s_newa k ls st h = .inl (.inl q)) (hk : k_newa (m_bs y) (m_pc y k) (m_pc y (k + 1)) = true) : W p l e R s m args below meth c H locs cells slots Q (F0 m (m_pc y k) la (st.map (m_v b sb))) := by
  obtain ⟨hx, hb, hml, hown, hT, hnm, hS, hX, hR⟩ := C
  unfold s_newa at hst
  split at hst
  · rename_i n r
    split at hst
    · rename_i hn
      obtain rfl := m_nx_inj hst
      simp only [m_hsz_app, List.length_append, List.length_cons, List.length_nil] at hc hs
      have e1 : m_hsz [.inr (.inl (List.replicate n.toNatClampNeg (0 : Int32)))] = n.toNatClampNeg := by simp [m_hsz, m_csz]
      rw [e1] at hs
      exact x_newa hx hb hT hS hP hF hn.1 hn.2.1 hn.2.2 (by omega) (by omega) hk (fun H1 hP1 hF1 => kk H1 locs la (cells + 1) _ hP1 hF1 hL (by simp; omega) (by show _ = _ + m_hsz (h ++ _); rw [m_hsz_app, e1]; omega))
    · exact (m_bad_ne hst).elim
  · exact (m_bad_ne hst).elim
theorem o_newq {w kd : Nat} (C : m_At p R s m args meth c S D tc b sb y d) (hP : m_P D tc b sb h H) (hF : va_S (fun x => b ≤ x) s.heap H locs) (hL : m_L b sb (m_mL y) ls la) (hc : cells + q.2.2.2.length ≤ R.cells + h.length) (hs : slots + m_hsz q.2.2.2 ≤ R.slots + m_hsz h) (kk : m_K p l e R s m args below meth c Q D tc b sb y h cells slots q) (hst : s_newq kd k ls st h = .inl (.inl q)) (hk : k_newq (m_y y).cls (m_bs y) (m_pc y k) (m_pc y (k + 1)) w kd = true) : W p l e R s m args below meth c H locs cells slots Q (F0 m (m_pc y k) la (st.map (m_v b sb))) := by
  obtain ⟨hx, hb, hml, hown, hT, hnm, hS, hX, hR⟩ := C
  unfold s_newq at hst
  split at hst
  · rename_i n r
    split at hst
    · rename_i hn
      obtain rfl := m_nx_inj hst
      simp only [m_hsz_app, List.length_append, List.length_cons, List.length_nil] at hc hs
      have e1 : m_hsz [.inr (.inr (kd, List.replicate n.toNatClampNeg (none : Option Nat)))] = n.toNatClampNeg := by simp [m_hsz, m_csz]
      rw [e1] at hs
      exact x_newq hx hb hown hT hS hP hF hn.1 hn.2.1 hn.2.2.1 hn.2.2.2 (by omega) (by omega) hk (fun H1 hP1 hF1 => kk H1 locs la (cells + 1) _ hP1 hF1 hL (by simp; omega) (by show _ = _ + m_hsz (h ++ _); rw [m_hsz_app, e1]; omega))
    · exact (m_bad_ne hst).elim
  · exact (m_bad_ne hst).elim
theorem m_hsz_rep (n : Nat) (e : MC) : m_hsz (List.replicate n e) = n * m_csz e := by
  induction n with
  | zero => simp [m_hsz]
  | succ n ih =>
    rw [List.replicate_succ]
    show m_csz e + m_hsz (List.replicate n e) = _
    rw [ih, Nat.succ_mul]
    omega
theorem o_multi {w : Nat} (C : m_At p R s m args meth c S D tc b sb y d) (hP : m_P D tc b sb h H) (hF : va_S (fun x => b ≤ x) s.heap H locs) (hL : m_L b sb (m_mL y) ls la) (hc : cells + q.2.2.2.length ≤ R.cells + h.length) (hs : slots + m_hsz q.2.2.2 ≤ R.slots + m_hsz h) (kk : m_K p l e R s m args below meth c Q D tc b sb y h cells slots q) (hst : s_multi k ls st h = .inl (.inl q)) (hk : k_multi (m_y y).cls (m_bs y) (m_pc y k) (m_pc y (k + 1)) w = true) : W p l e R s m args below meth c H locs cells slots Q (F0 m (m_pc y k) la (st.map (m_v b sb))) := by
  obtain ⟨hx, hb, hml, hown, hT, hnm, hS, hX, hR⟩ := C
  unfold s_multi at hst
  split at hst
  · rename_i z n r
    split at hst
    · rename_i hn
      obtain rfl := m_nx_inj hst
      have e1 : m_hsz (.inr (.inr (3, (List.range n.toNatClampNeg).map fun i => some (h.length + 1 + i))) :: List.replicate n.toNatClampNeg (.inr (.inl (List.replicate z.toNatClampNeg 0)))) = n.toNatClampNeg + n.toNatClampNeg * z.toNatClampNeg := by
        show m_csz _ + m_hsz (List.replicate _ _) = _
        rw [m_hsz_rep]
        simp [m_csz]
      simp only [m_hsz_app, e1, List.length_append, List.length_cons, List.length_replicate] at hc hs
      exact x_multi hx hb hown hT hS hP hF hn.1 hn.2.1 hn.2.2.1 hn.2.2.2.1 hn.2.2.2.2 (by omega) (by omega) hk (fun H1 hP1 hF1 => kk H1 locs la _ _ hP1 hF1 hL (by simp; omega) (by show _ = _ + m_hsz (h ++ _); rw [m_hsz_app, e1]; omega))
    · exact (m_bad_ne hst).elim
  · exact (m_bad_ne hst).elim
theorem o_oin {w : Nat} (C : m_At p R s m args meth c S D tc b sb y d) (hP : m_P D tc b sb h H) (hF : va_S (fun x => b ≤ x) s.heap H locs) (hL : m_L b sb (m_mL y) ls la) (kk : m_K p l e R s m args below meth c Q D tc b sb y h cells slots q) (hst : s_oin d k ls st h = .inl (.inl q)) (hk : k_oin (m_y y).cls (m_bs y) (m_pc y k) (m_pc y (k + 1)) w = true) : W p l e R s m args below meth c H locs cells slots Q (F0 m (m_pc y k) la (st.map (m_v b sb))) := by
  obtain ⟨hx, hb, hml, hown, hT, hnm, hS, hX, hR⟩ := C
  unfold s_oin at hst
  split at hst
  · split at hst
    · rename_i hc
      obtain rfl := m_nx_inj hst
      exact x_oin hx hb (hL.1.trans hml.symm) hown hT (by omega) (by rw [m_sum]; omega) hk (kk H locs la cells slots hP hF hL rfl rfl)
    · exact (m_bad_ne hst).elim
  · exact (m_bad_ne hst).elim
theorem o_copy {w : Nat} (C : m_At p R s m args meth c S D tc b sb y d) (hP : m_P D tc b sb h H) (hF : va_S (fun x => b ≤ x) s.heap H locs) (hL : m_L b sb (m_mL y) ls la) (kk : m_K p l e R s m args below meth c Q D tc b sb y h cells slots q) (hst : s_copy d k ls st h = .inl (.inl q)) (hk : k_copy (m_y y).cls (m_bs y) (m_pc y k) (m_pc y (k + 1)) w = true) : W p l e R s m args below meth c H locs cells slots Q (F0 m (m_pc y k) la (st.map (m_v b sb))) := by
  obtain ⟨hx, hb, hml, hown, hT, hnm, hS, hX, hR⟩ := C
  unfold s_copy at hst
  split at hst
  · split at hst
    · rename_i l1 g1 ha hg
      split at hst
      · rename_i hc
        obtain ⟨h1, h2, h3, h4, h5, h6, h7⟩ := hc
        obtain rfl := m_nx_inj hst
        exact x_copy hx hb (hml.trans hL.1.symm) hown hT hS hP hF ha hg h1 h2 h3 h4 h5 (by omega) (by rw [m_sum]; omega) hk (fun H1 locs1 hP1 hF1 => kk H1 locs1 la cells slots hP1 hF1 hL (by simp) (by rw [m_hsz_set h _ _ _ (m_cell_some hg).2 (by simp [m_csz, m_cpy_len])]))
      · exact (m_bad_ne hst).elim
    · exact (m_bad_ne hst).elim
  · exact (m_bad_ne hst).elim
theorem o_max {w : Nat} (C : m_At p R s m args meth c S D tc b sb y d) (hP : m_P D tc b sb h H) (hF : va_S (fun x => b ≤ x) s.heap H locs) (hL : m_L b sb (m_mL y) ls la) (hc : cells + q.2.2.2.length ≤ R.cells + h.length) (hs : slots + m_hsz q.2.2.2 ≤ R.slots + m_hsz h) (kk : m_K p l e R s m args below meth c Q D tc b sb y h cells slots q) (hst : s_mm 0 d k ls st h = .inl (.inl q)) (hk : k_max (m_y y).cls (m_bs y) (m_pc y k) (m_pc y (k + 1)) w = true) : W p l e R s m args below meth c H locs cells slots Q (F0 m (m_pc y k) la (st.map (m_v b sb))) := by
  obtain ⟨hx, hb, hml, hown, hT, hnm, hS, hX, hR⟩ := C
  unfold s_mm at hst
  split at hst
  · split at hst
    · rename_i hd
      obtain rfl := m_nx_inj hst
      simp only at hc hs
      exact x_max hx hb (hml.trans hL.1.symm) hown hT (by omega) (by rw [m_sum]; omega) (by omega) (by omega) hk (kk H locs la cells slots hP hF hL rfl rfl)
    · exact (m_bad_ne hst).elim
  · exact (m_bad_ne hst).elim
theorem o_min {w : Nat} (C : m_At p R s m args meth c S D tc b sb y d) (hP : m_P D tc b sb h H) (hF : va_S (fun x => b ≤ x) s.heap H locs) (hL : m_L b sb (m_mL y) ls la) (hc : cells + q.2.2.2.length ≤ R.cells + h.length) (hs : slots + m_hsz q.2.2.2 ≤ R.slots + m_hsz h) (kk : m_K p l e R s m args below meth c Q D tc b sb y h cells slots q) (hst : s_mm 1 d k ls st h = .inl (.inl q)) (hk : k_min (m_y y).cls (m_bs y) (m_pc y k) (m_pc y (k + 1)) w = true) : W p l e R s m args below meth c H locs cells slots Q (F0 m (m_pc y k) la (st.map (m_v b sb))) := by
  obtain ⟨hx, hb, hml, hown, hT, hnm, hS, hX, hR⟩ := C
  unfold s_mm at hst
  split at hst
  · split at hst
    · rename_i hd
      obtain rfl := m_nx_inj hst
      simp only at hc hs
      exact x_min hx hb (hml.trans hL.1.symm) hown hT (by omega) (by rw [m_sum]; omega) (by omega) (by omega) hk (kk H locs la cells slots hP hF hL rfl rfl)
    · exact (m_bad_ne hst).elim
  · exact (m_bad_ne hst).elim
end MO
