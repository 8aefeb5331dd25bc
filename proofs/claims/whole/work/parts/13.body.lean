theorem m_pc0 : ∀ y ∈ List.range 176, m_pc y 0 = 0 := by decide +kernel
theorem m_ck_at {y k : Nat} {i : MI} (hy : y < 176) (hi : (m_code y)[k]? = some i) : m_dk (m_y y).cls (m_y y).name (m_bs y) (m_pc y k) (m_pc y (k + 1)) (m_pc y) ((m_pcl y).getD k (0, [])).2 i = true := by
  have h := m_ck_all hy k (List.getElem?_eq_some_iff.mp hi).1
  unfold m_ck at h
  rw [show (m_code y).getD k (99, 0, 0, 0, []) = i by rw [List.getD_eq_getElem?_getD, hi]; rfl] at h
  exact h
theorem stp_mono {S : Nat × (Nat → Int32)} {d : Nat} {k : Nat} {ls : ML} {st : List MV} {h : MH} {q : MS} : ∀ i : MI, stp S d i k ls st h = .inl (.inl q) → h.length ≤ q.2.2.2.length ∧ m_hsz h ≤ m_hsz q.2.2.2
  | (0, _, _, _, _), e => by obtain rfl := m_nx_inj e; exact ⟨Nat.le_refl _, Nat.le_refl _⟩
  | (1, _, _, _, _), e => by
    replace e : s_load _ _ _ _ _ _ = _ := e
    unfold s_load at e
    repeat' split at e
    all_goals first | exact (m_bad_ne e).elim | (obtain rfl := m_nx_inj e; exact ⟨Nat.le_refl _, Nat.le_refl _⟩)
  | (2, _, _, _, _), e => by
    replace e : s_store _ _ _ _ _ _ = _ := e
    unfold s_store at e
    repeat' split at e
    all_goals first | exact (m_bad_ne e).elim | (obtain rfl := m_nx_inj e; exact ⟨Nat.le_refl _, Nat.le_refl _⟩)
  | (3, _, _, _, _), e => by
    replace e : s_iinc _ _ _ _ _ _ = _ := e
    unfold s_iinc at e
    repeat' split at e
    all_goals first | exact (m_bad_ne e).elim | (obtain rfl := m_nx_inj e; exact ⟨Nat.le_refl _, Nat.le_refl _⟩)
  | (4, _, _, _, _), e => by
    replace e : s_bin _ _ _ _ _ = _ := e
    unfold s_bin at e
    repeat' split at e
    all_goals first | exact (m_bad_ne e).elim | (obtain rfl := m_nx_inj e; exact ⟨Nat.le_refl _, Nat.le_refl _⟩)
  | (5, _, _, _, _), e => by
    replace e : s_un _ _ _ _ _ = _ := e
    unfold s_un at e
    repeat' split at e
    all_goals first | exact (m_bad_ne e).elim | (obtain rfl := m_nx_inj e; exact ⟨Nat.le_refl _, Nat.le_refl _⟩)
  | (6, _, _, _, _), e => by
    replace e : s_dup _ _ _ _ = _ := e
    unfold s_dup at e
    repeat' split at e
    all_goals first | exact (m_bad_ne e).elim | (obtain rfl := m_nx_inj e; exact ⟨Nat.le_refl _, Nat.le_refl _⟩)
  | (7, _, _, _, _), e => by
    replace e : s_dup2 _ _ _ _ = _ := e
    unfold s_dup2 at e
    repeat' split at e
    all_goals first | exact (m_bad_ne e).elim | (obtain rfl := m_nx_inj e; exact ⟨Nat.le_refl _, Nat.le_refl _⟩)
  | (8, _, _, _, _), e => by
    replace e : s_pop _ _ _ _ = _ := e
    unfold s_pop at e
    repeat' split at e
    all_goals first | exact (m_bad_ne e).elim | (obtain rfl := m_nx_inj e; exact ⟨Nat.le_refl _, Nat.le_refl _⟩)
  | (9, _, _, _, _), e => by
    replace e : s_if _ _ _ _ _ _ = _ := e
    unfold s_if at e
    split at e
    · obtain rfl := (Sum.inl.inj (Sum.inl.inj e)).symm
      exact ⟨Nat.le_refl _, Nat.le_refl _⟩
    · exact (m_bad_ne e).elim
  | (10, _, _, _, _), e => by
    replace e : s_icmp _ _ _ _ _ _ = _ := e
    unfold s_icmp at e
    split at e
    · obtain rfl := (Sum.inl.inj (Sum.inl.inj e)).symm
      exact ⟨Nat.le_refl _, Nat.le_refl _⟩
    · exact (m_bad_ne e).elim
  | (11, _, _, _, _), e => by
    obtain rfl := (Sum.inl.inj (Sum.inl.inj e)).symm
    exact ⟨Nat.le_refl _, Nat.le_refl _⟩
  | (12, _, _, _, _), e => by
    replace e : s_switch _ _ _ _ _ _ = _ := e
    unfold s_switch at e
    split at e
    · obtain rfl := (Sum.inl.inj (Sum.inl.inj e)).symm
      exact ⟨Nat.le_refl _, Nat.le_refl _⟩
    · exact (m_bad_ne e).elim
  | (13, _, _, _, _), e => by
    replace e : s_getf _ _ _ _ _ _ = _ := e
    unfold s_getf at e
    repeat' split at e
    all_goals first | exact (m_bad_ne e).elim | (obtain rfl := m_nx_inj e; exact ⟨Nat.le_refl _, Nat.le_refl _⟩)
  | (14, _, _, _, _), e => by
    replace e : s_putf _ _ _ _ _ _ _ = _ := e
    unfold s_putf at e
    split at e
    · split at e
      · rename_i ha
        split at e
        · obtain rfl := m_nx_inj e
          exact ⟨by simp, Nat.le_of_eq (m_hsz_set h _ _ _ (m_cell_some ha).2 (by simp [m_csz])).symm⟩
        · exact (m_bad_ne e).elim
      · exact (m_bad_ne e).elim
    · exact (m_bad_ne e).elim
  | (15, _, _, _, _), e => by
    replace e : s_iald _ _ _ _ _ = _ := e
    unfold s_iald at e
    repeat' split at e
    all_goals first | exact (m_bad_ne e).elim | (obtain rfl := m_nx_inj e; exact ⟨Nat.le_refl _, Nat.le_refl _⟩)
  | (16, _, _, _, _), e => by
    replace e : s_iast _ _ _ _ = _ := e
    unfold s_iast at e
    split at e
    · split at e
      · rename_i ha
        split at e
        · obtain rfl := m_nx_inj e
          exact ⟨by simp, Nat.le_of_eq (m_hsz_set h _ _ _ (m_cell_some ha).2 (by simp [m_csz])).symm⟩
        · exact (m_bad_ne e).elim
      · exact (m_bad_ne e).elim
    · exact (m_bad_ne e).elim
  | (17, _, _, _, _), e => by
    replace e : s_aald _ _ _ _ = _ := e
    unfold s_aald at e
    repeat' split at e
    all_goals first | exact (m_bad_ne e).elim | (obtain rfl := m_nx_inj e; exact ⟨Nat.le_refl _, Nat.le_refl _⟩)
  | (18, _, _, _, _), e => by
    replace e : s_aast _ _ _ _ = _ := e
    unfold s_aast at e
    split at e
    · split at e
      · rename_i ha _
        split at e
        · obtain rfl := m_nx_inj e
          exact ⟨by simp, Nat.le_of_eq (m_hsz_set h _ _ _ (m_cell_some ha).2 (by simp [m_csz])).symm⟩
        · exact (m_bad_ne e).elim
      · exact (m_bad_ne e).elim
    · exact (m_bad_ne e).elim
  | (19, _, _, _, _), e => by
    replace e : s_alen _ _ _ _ _ = _ := e
    unfold s_alen at e
    repeat' split at e
    all_goals first | exact (m_bad_ne e).elim | (obtain rfl := m_nx_inj e; exact ⟨Nat.le_refl _, Nat.le_refl _⟩)
  | (20, _, _, _, _), e => by
    replace e : s_new _ _ _ _ _ = _ := e
    unfold s_new at e
    split at e
    · obtain rfl := m_nx_inj e
      exact ⟨by simp, by simp [m_hsz_app]⟩
    · exact (m_bad_ne e).elim
  | (21, _, _, _, _), e => by
    replace e : s_newa _ _ _ _ = _ := e
    unfold s_newa at e
    repeat' split at e
    all_goals first | exact (m_bad_ne e).elim | (obtain rfl := m_nx_inj e; exact ⟨by simp, by simp [m_hsz_app]⟩)
  | (22, _, _, _, _), e => by
    replace e : s_newq _ _ _ _ _ = _ := e
    unfold s_newq at e
    repeat' split at e
    all_goals first | exact (m_bad_ne e).elim | (obtain rfl := m_nx_inj e; exact ⟨by simp, by simp [m_hsz_app]⟩)
  | (23, _, _, _, _), e => by
    replace e : s_multi _ _ _ _ = _ := e
    unfold s_multi at e
    repeat' split at e
    all_goals first | exact (m_bad_ne e).elim | (obtain rfl := m_nx_inj e; exact ⟨by simp, by simp [m_hsz_app]⟩)
  | (24, _, _, _, _), e => (s_call_next e).elim
  | (25, _, _, _, _), e => by
    replace e : s_oin _ _ _ _ _ = _ := e
    unfold s_oin at e
    repeat' split at e
    all_goals first | exact (m_bad_ne e).elim | (obtain rfl := m_nx_inj e; exact ⟨Nat.le_refl _, Nat.le_refl _⟩)
  | (26, _, _, _, _), e => by
    replace e : s_copy _ _ _ _ _ = _ := e
    unfold s_copy at e
    split at e
    · split at e
      · rename_i ha
        split at e
        · obtain rfl := m_nx_inj e
          exact ⟨by simp, Nat.le_of_eq (m_hsz_set h _ _ _ (m_cell_some ha).2 (by simp [m_csz, m_cpy_len])).symm⟩
        · exact (m_bad_ne e).elim
      · exact (m_bad_ne e).elim
    · exact (m_bad_ne e).elim
  | (27, _, _, _, _), e => by cases e
  | (28, _, _, _, _), e => by cases e
  | (29, _, _, _, _), e => (s_calls_next e).elim
  | (30, _, _, _, _), e => (s_call_next e).elim
  | (31, _, _, _, _), e => by
    replace e : s_mm _ _ _ _ _ _ = _ := e
    unfold s_mm at e
    repeat' split at e
    all_goals first | exact (m_bad_ne e).elim | (obtain rfl := m_nx_inj e; exact ⟨Nat.le_refl _, Nat.le_refl _⟩)
  | (32, _, _, _, _), e => by
    replace e : s_mm _ _ _ _ _ _ = _ := e
    unfold s_mm at e
    repeat' split at e
    all_goals first | exact (m_bad_ne e).elim | (obtain rfl := m_nx_inj e; exact ⟨Nat.le_refl _, Nat.le_refl _⟩)
  | (_ + 33, _, _, _, _), e => (m_bad_ne e).elim
def m_Body (l : Launch) (S : Nat × (Nat → Int32)) (D : va_G) (tc : Nat → ClassId) (b sb y d k : Nat) (ls : ML) (st : List MV) (h : MH) (kR : Nat) (stR : List MV) (h' : MH) : Prop :=
  ∀ (p : Program) (e : Env) (R : Room) (s : State) (m : MethodId) (args : Array Value) (below : List Frame) (meth : Method) (c : Code) (H : Heap) (locs : List Loc) (cells slots : Nat) (Q : State → Prop) (la : Array Slot),
    m_At p R s m args meth c S D tc b sb y d → m_P D tc b sb h H → va_S (fun q => b ≤ q) s.heap H locs → m_L b sb (m_mL y) ls la → cells + h'.length ≤ R.cells + h.length → slots + m_hsz h' ≤ R.slots + m_hsz h →
    (∀ (H1 : Heap) (locs1 : List Loc) (la1 : Array Slot) (cells1 slots1 : Nat), m_P D tc b sb h' H1 → va_S (fun q => b ≤ q) s.heap H1 locs1 → cells1 + h.length = cells + h'.length → slots1 + m_hsz h = slots + m_hsz h' → W p l e R s m args below meth c H1 locs1 cells1 slots1 Q (F0 m (m_pc y kR) la1 (stR.map (m_v b sb)))) →
    W p l e R s m args below meth c H locs cells slots Q (F0 m (m_pc y k) la (st.map (m_v b sb)))
theorem k_meth_ok {y n fl ci : Nat} (h : k_meth y n fl ci = true) : y < 176 ∧ m_in (m_wi y 0) (Cond.code (m_y y) (m_bs y) (m_mL y) (m_rt y)) = true ∧ m_in (m_wi y 1) (.initialized (m_y y).cls) = true ∧ ((m_y y).cls ≠ "java/lang/invoke/MethodHandle" ∧ (m_y y).cls ≠ "java/lang/invoke/VarHandle") ∧ plainName (m_y y).cls = true ∧ m_mL y ≤ 40 ∧ n ≤ m_mL y ∧ m_rk y < 3 ∧
    (if fl = 0 then m_in (m_wi y 2) (.static (m_y y)) && decide ((parseMethodDescriptor (m_y y).desc).map (fun q => q.parameters.length) = some n) else
      m_in (m_wi y 2) (.instanceMethod (m_y y)) && decide (ci < 8) && decide ((m_C ci).1 = (m_y y).cls) && decide (0 < n) && decide ((parseMethodDescriptor (m_y y).desc).map (fun q => q.parameters.length) = some (n - 1)) && (if fl = 1 then decide ((m_y y).name = "<init>") && decide (m_rk y = 0) else m_in (m_wi y 3) (.selects (m_y y).cls (m_y y) (m_y y)))) = true := by
  unfold k_meth at h
  simp only [Bool.and_eq_true, decide_eq_true_eq] at h
  obtain ⟨⟨⟨⟨⟨⟨⟨⟨⟨⟨⟨a0, a1⟩, a2⟩, a3⟩, a4⟩, a5⟩, a6⟩, a7⟩, a8⟩, a9⟩, a10⟩, a11⟩ := h
  exact ⟨a1, a3, a4, ⟨a5, a6⟩, a7, a8, a9, a10, a11⟩
theorem met_ok (l : Launch) {S : Nat × (Nat → Int32)} {D : va_G} {tc : Nat → ClassId} {b sb y n fl ci d kR : Nat} {As stR rv : List MV} {h h1 : MH} (hsb : sb < b) (hm : k_meth y n fl ci = true) (hAs : As.length = n) (hmono : h.length ≤ h1.length ∧ m_hsz h ≤ m_hsz h1) (hB : m_Body l S D tc b sb y d 0 (m_ent y As) [] h kR stR h1) (hret : m_ret y kR stR = some rv) :
    Met l (m_y y) (m_ws y) (m_rm d h h1) (m_Pc D tc b sb S As h) (m_Qc D tc b sb rv h1) (h1.length - h.length) (m_hsz h1 - m_hsz h) (fun q => b ≤ q) := by
  obtain ⟨hy, hcode, hini, hmh, hpl, hmL, hn, hrk, -⟩ := k_meth_ok hm
  refine Met.ofW (cc := m_bs y) (maxL := m_mL y) (ret := m_rt y) hpl rfl ?_
  intro p e s m args below meth c s₁ B hml hv
  obtain ⟨rfl, hP, hSt, hX⟩ := hv
  have hts := atoms_spec (ws := m_ws y) B.pre
  have hown : s.vm.findClass (m_y y).cls = some m.cls := findClass_of_methodNamed B.named
  have hnm : meth.name = (m_y y).name := (name_of_methodNamed B.named B.method).1
  have hlocks := B.notSynchronized
  have hr := B.returns
  obtain ⟨la, hla, hL⟩ := m_L.entry (b := b) (sb := sb) (nL := m_mL y) As (by omega)
  rw [hla]
  refine W.eq (g2 := F0 m (m_pc y 0) la []) (by rw [m_pc0 y (List.mem_range.mpr hy)]) ?_
  have C : m_At p (headSpec (m_ws y) (m_rm d h h1)).room s m (As.map (m_v b sb)).toArray meth c S D tc b sb y d := ⟨B.exec, B.bytes, hml, hown, fun w hw hg => hts w (List.mem_cons_of_mem _ (List.mem_filter.mpr ⟨hw, hg⟩)), hnm, hSt, ⟨hX, hsb, by rw [hP.1]; exact Nat.le_add_right _ _⟩, ⟨Nat.le_refl d, Nat.le_refl (64 * d)⟩⟩
  refine hB p e _ s m _ below meth c s.heap [] 0 0 _ la C hP va_S.rf hL ?_ ?_ ?_
  · show 0 + h1.length ≤ (h1.length - h.length) + h.length
    omega
  · show 0 + m_hsz h1 ≤ (m_hsz h1 - m_hsz h) + m_hsz h
    omega
  · intro H1 locs1 la1 cells1 slots1 hP1 hF1 hc1 hs1
    refine W.widen (k := h1.length - h.length) (n := m_hsz h1 - m_hsz h) (by omega) (by omega) ?_
    unfold m_ret at hret
    split at hret
    · rename_i i hi
      have hck := m_ck_at hy hi
      obtain ⟨op, a, b', v, ts⟩ := i
      split at hret
      · rename_i v' _ _ h27 hk1
        dsimp only at h27
        subst h27
        cases hret
        have hd : decode (m_bs y) (m_pc y kR) = .ok (.ireturn, 1) := of_decide_eq_true hck
        have hrt : meth.sig.returnType = some .int := by rw [hr]; unfold m_rt; rw [hk1]; rfl
        exact W.iret B.exec B.bytes hrt (fun t ht hW => ⟨⟨_, rfl, rfl, by rw [ht]; exact hP1⟩, hF1.F ht⟩) hF1.2.2 hd
      · rename_i v' _ _ h27 hk1
        dsimp only at h27
        subst h27
        split at hret
        · rename_i hv01
          cases hret
          have hd : decode (m_bs y) (m_pc y kR) = .ok (.ireturn, 1) := of_decide_eq_true hck
          have hrt : meth.sig.returnType = some .boolean := by rw [hr]; unfold m_rt; rw [hk1]; rfl
          exact W.zret (ty := .boolean) B.exec B.bytes hrt (by rcases hv01 with rfl | rfl <;> rfl) (fun t ht hW => ⟨⟨_, rfl, rfl, by rw [ht]; exact hP1⟩, hF1.F ht⟩) hF1.2.2 hd
        · cases hret
      · rename_i _ _ h27 hk1
        dsimp only at h27
        subst h27
        cases hret
        have hd : decode (m_bs y) (m_pc y kR) = .ok (.return_, 1) := of_decide_eq_true hck
        have hrt : meth.sig.returnType = none := by rw [hr]; unfold m_rt; rw [hk1]; rfl
        exact W.vret B.exec B.bytes hrt (fun t ht hW => ⟨⟨_, rfl, rfl, by rw [ht]; exact hP1⟩, hF1.F ht⟩) hF1.2.2 hd
      · cases hret
    · cases hret
