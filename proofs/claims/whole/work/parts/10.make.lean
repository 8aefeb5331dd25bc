/-! rows: copy, make, numbers of the library -/
section MR3
variable {p : Program} {l : Launch} {e : Env} {R : Room} {s : State} {m : MethodId} {args : Array Value} {below : List Frame} {meth : Method} {c : Code} {H : Heap} {locs : List Loc} {cells slots : Nat} {Q : State → Prop}
variable {cc : ByteArray} {pc nx : Nat} {la : Array Slot} {b sb nL : Nat} {D : va_G} {tc : Nat → ClassId} {h : MH} {st : List Value}
theorem m_nn (z : Int32) (hz : ¬ z < 0) : z.toInt = (z.toNatClampNeg : Int) := by
  have hz0 : (0 : Int) ≤ z.toInt := by
    have := Int32.not_lt.mp hz
    simpa using Int32.le_iff_toInt_le.mp this
  show z.toInt = ((z.toInt.toNat : Nat) : Int)
  omega
theorem m_cpy_len (l1 g1 : List Int32) (sp dp n : Nat) : (m_cpy l1 g1 sp dp n).length = g1.length := by simp [m_cpy]
theorem x_copy {own : String} {w a a1 : Nat} {n dp sp : Int32} {l1 g1 : List Int32} (hx : p.tables.exec = Jvm.exec) (hb : c.code = cc) (hml : c.maxLocals = la.size) (hown : s.vm.findClass own = some m.cls) (hT : ∀ w ∈ lw_tbl, goodWord w = true → w.before args s = true) (hS : m_St D tc s) (hP : m_P D tc b sb h H) (hF : va_S (fun q => b ≤ q) s.heap H locs)
    (ha : m_cell h a = some (.inr (.inl l1))) (ha1 : m_cell h a1 = some (.inr (.inl g1))) (h3 : ¬ n < 0) (h2 : ¬ dp < 0) (h1 : ¬ sp < 0) (h4 : sp.toNatClampNeg + n.toNatClampNeg ≤ l1.length) (h5 : dp.toNatClampNeg + n.toNatClampNeg ≤ g1.length) (hfr : 1 ≤ R.frames) (hlo : (st.map fun v => v.category).sum + 18 ≤ R.locals) (hk : k_copy own cc pc nx w = true)
    (kk : ∀ (H1 : Heap) (locs1 : List Loc), m_P D tc b sb (h.set a1 (.inr (.inl (m_cpy l1 g1 sp.toNatClampNeg dp.toNatClampNeg n.toNatClampNeg)))) H1 → va_S (fun q => b ≤ q) s.heap H1 locs1 → W p l e R s m args below meth c H1 locs1 cells slots Q (F0 m nx la st)) : W p l e R s m args below meth c H locs cells slots Q (F0 m pc la (.int n :: .int dp :: .ref (m_ad b sb a1) :: .int sp :: .ref (m_ad b sb a) :: st)) := by
  obtain ⟨hne, hg⟩ := m_cell_some ha
  obtain ⟨hne1, hg1⟩ := m_cell_some ha1
  rw [m_ad_ne hne, m_ad_ne hne1]
  unfold k_copy at hk
  simp only [Bool.and_eq_true, decide_eq_true_eq] at hk
  obtain ⟨⟨⟨⟨h9, w1⟩, w2⟩, w3⟩, hk⟩ := hk
  subst h9
  split at hk
  · rename_i z hd
    intro T hTT X
    have hc0 : H[b + a]? = some (vp_cell (tc 0) (l1.length, .inl (fun j => l1.getD j 0))) := hP.2 a _ hg
    have hc1 : H[b + a1]? = some (vp_cell (tc 0) (g1.length, .inl (fun j => g1.getD j 0))) := hP.2 a1 _ hg1
    obtain ⟨-, k0, hk0, cm0, hkk0⟩ := (hS.1.2 0 _ rfl).1 l1.length (fun j => .int (l1.getD j 0))
    obtain ⟨-, k1, hk1, cm1, hkk1⟩ := (hS.1.2 0 _ rfl).1 g1.length (fun j => .int (g1.getD j 0))
    obtain ⟨vm', X', step⟩ := X.arraycopy hx hown (hT _ (m_in_ok hk).1 (m_in_ok hk).2) (hT _ (m_in_ok w1).1 (m_in_ok w1).2) (hT _ (m_in_ok w2).1 (m_in_ok w2).2) (hT _ (m_in_ok w3).1 (m_in_ok w3).2) (src := b + a) (dst := b + a1) (cs := vp_cell (tc 0) (l1.length, .inl (fun j => l1.getD j 0))) (cd := vp_cell (tc 0) (g1.length, .inl (fun j => g1.getD j 0))) (srcPos := sp) (destPos := dp) (n := n) (by rw [hTT]; exact hc0) (by rw [hTT]; exact hc1)
      (fun _ h => by cases h) (fun _ h => by cases h) (fun h => by cases h) (fun h => by cases h) hk0 hk1 hkk0 hkk1 (by simp [refKind]) h1 h2 h3
      (by rw [m_nn sp h1, m_nn n h3]; show ¬ _ > ((arrV (tc 0) l1.length (fun j => .int (l1.getD j 0))).slots.size : Int); rw [arrV_size]; omega)
      (by rw [m_nn dp h2, m_nn n h3]; show ¬ _ > ((arrV (tc 0) g1.length (fun j => .int (g1.getD j 0))).slots.size : Int); rw [arrV_size]; omega)
      (fun vm₁ _ i hi => by
        have e : (vp_cell (tc 0) (l1.length, .inl (fun j => l1.getD j 0))).slots.getD (sp.toNatClampNeg + i) .null = .int (l1.getD (sp.toNatClampNeg + i) 0) := by
          show (arrV (tc 0) l1.length (fun j => .int (l1.getD j 0))).slots.getD _ _ = _
          rw [Array.getD_eq_getD_getElem?, arrV_read _ _ (by omega)]
          rfl
        refine ⟨?_, ?_⟩
        · rw [e]
          rfl
        · rw [e]
          exact trivial)
      (g := F0 m pc la (.int n :: .int dp :: .ref (b + a1) :: .int sp :: .ref (b + a) :: st)) rfl (by rw [hml]) (rest := st) rfl (by rw [hb]; exact hd) hfr (by show 2 * 0 + _ + (7 + 11) ≤ _; omega)
    have e1 : copied (vp_cell (tc 0) (l1.length, .inl (fun j => l1.getD j 0))) (vp_cell (tc 0) (g1.length, .inl (fun j => g1.getD j 0))) sp dp n = vp_cell (tc 0) ((m_cpy l1 g1 sp.toNatClampNeg dp.toNatClampNeg n.toNatClampNeg).length, .inl (fun j => (m_cpy l1 g1 sp.toNatClampNeg dp.toNatClampNeg n.toNatClampNeg).getD j 0)) := by
      refine (va_copied (fun z => .int z) (tc 0) (tc 0) (fun j => l1.getD j 0) (fun j => g1.getD j 0) h4).trans ?_
      rw [vp_cell_i, m_cpy_len]
      refine congrArg (fun (f : Fin g1.length → Value) => ({ cls := tc 0, slots := Array.ofFn f, vm := .none } : Cell)) (funext fun j => ?_)
      show Value.int (va_cpy _ _ _ _ _ j.val) = Value.int _
      congr 1
      unfold m_cpy va_cpy
      rw [List.getD_eq_getElem?_getD, List.getElem?_map, List.getElem?_range j.isLt]
      rfl
    rw [e1] at X' step
    generalize hC : vp_cell (tc 0) ((m_cpy l1 g1 sp.toNatClampNeg dp.toNatClampNeg n.toNatClampNeg).length, .inl (fun j => (m_cpy l1 g1 sp.toNatClampNeg dp.toNatClampNeg n.toNatClampNeg).getD j 0)) = C1 at X' step
    have hl : b + a1 < H.size := (Array.getElem?_eq_some_iff.mp hc1).1
    have hheap : ((T.setVm vm').setCell (b + a1) C1).heap = H.setIfInBounds (b + a1) C1 := by rw [← hTT]; rfl
    have oq : ∀ q : Nat, q ≠ b + a1 → (H.setIfInBounds (b + a1) C1)[q]? = H[q]? := fun q hq => by simp [Array.getElem?_setIfInBounds, Ne.symm hq]
    obtain ⟨t, a2, b2⟩ := kk _ _ (hP.set hg1 (by simp) oq (show (H.setIfInBounds (b + a1) C1)[b + a1]? = some (vp_cell _ _) by rw [hC]; simp [Array.getElem?_setIfInBounds, hl])) ⟨by simp; exact hF.1, fun q g1 g2 => by
        rw [oq q (fun e => g2 (by rw [e]; exact Nat.le_add_right b a1))]
        exact hF.2.1 q g1 g2, fun q hq => by
        rcases List.mem_append.mp hq with h | h
        · exact hF.2.2 q h
        · obtain ⟨z, -, hz⟩ := List.mem_map.mp h
          rw [← hz]
          exact Nat.le_add_right b a1⟩ _ hheap X'
    exact ⟨t, step t a2, b2⟩
  · cases hk
theorem va_S.grow {A : Nat → Prop} {H0 H H1 : Heap} {locs : List Loc} (hF : va_S A H0 H locs) (hz : H.size ≤ H1.size) (ho : ∀ q, q < H.size → H1[q]? = H[q]?) : va_S A H0 H1 locs := ⟨Nat.le_trans hF.1 hz, fun x h1 h2 => (ho x (Nat.lt_of_lt_of_le h1 hF.1)).trans (hF.2.1 x h1 h2), hF.2.2⟩
theorem x_new {own : String} {w0 w1 w2 ci : Nat} (hx : p.tables.exec = Jvm.exec) (hb : c.code = cc) (hown : s.vm.findClass own = some m.cls) (hT : ∀ w ∈ lw_tbl, goodWord w = true → w.before args s = true) (hS : m_St D tc s) (hP : m_P D tc b sb h H) (hF : va_S (fun q => b ≤ q) s.heap H locs) (hn : h.length < m_scr) (hcells : cells + 1 ≤ R.cells) (hslots : slots + (m_def.getD ci []).length ≤ R.slots) (hk : k_new own cc pc nx w0 w1 w2 ci = true)
    (kk : ∀ (H1 : Heap), m_P D tc b sb (h ++ [.inl (ci, m_def.getD ci [])]) H1 → va_S (fun q => b ≤ q) s.heap H1 locs → W p l e R s m args below meth c H1 locs (cells + 1) (slots + (m_def.getD ci []).length) Q (F0 m nx la (.ref (m_ad b sb h.length) :: st))) : W p l e R s m args below meth c H locs cells slots Q (F0 m pc la st) := by
  unfold k_new at hk
  simp only [Bool.and_eq_true, decide_eq_true_eq] at hk
  obtain ⟨⟨h2, hc⟩, hk⟩ := hk
  subst h2
  have hKn := hS.1.1 ci _ (m_cl_get hc)
  have hlen : (m_def.getD ci []).length = (m_C ci).2.2 := by
    have h := List.all_eq_true.mp m_clsok_ok ci (List.mem_range.mpr hc)
    simp only [Bool.and_eq_true, decide_eq_true_eq] at h
    exact h.1
  split at hk
  · rename_i z hd
    simp only [Bool.and_eq_true] at hk
    obtain ⟨⟨c0, c1⟩, c2⟩ := hk
    rw [hlen] at kk hslots
    refine W.newcK hx hb hown (hT _ (m_in_ok c0).1 (m_in_ok c0).2) (hT _ (m_in_ok c1).1 (m_in_ok c1).2) (hT _ (m_in_ok c2).1 (m_in_ok c2).2) rfl hd hcells hslots hKn.2.1 rfl fun H1 kC hkC e1 z1 o1 => ?_
    have hq : H.size = m_ad b sb h.length := by rw [hP.1, m_ad_ne (Nat.ne_of_lt hn)]
    have hob := (u_born (m_ty ci) (m_hts hT) (m_uws hc) hKn hkC e1 (m_tyok hc))
    have key := kk H1 (hP.push z1 o1 ⟨_, m_cl_get hc, by
      rw [← hP.1]
      refine hob.to (fun k hk => ?_)
      obtain ⟨-, -, -, h4, h5, -⟩ := m_cls_ok hc hk
      rw [h4]
      have hk2 : k < (m_def.getD ci []).length := by rw [hlen]; exact hk
      have e5 : (m_def.getD ci []).getD k (.inr none) = (m_def.getD ci [])[k]'hk2 := by
        rw [List.getD_eq_getElem?_getD, List.getElem?_eq_getElem hk2]
        rfl
      have e6 : ((m_def.getD ci []).map (m_v b sb)).getD k .null = m_v b sb ((m_def.getD ci [])[k]'hk2) := by
        rw [List.getD_eq_getElem?_getD, List.getElem?_map, List.getElem?_eq_getElem hk2]
        rfl
      show m_dv _ = ((m_def.getD ci []).map (m_v b sb)).getD k .null
      rw [e6, e5]
      rw [e5] at h5
      rcases h5 with h5 | h5 <;> rw [h5] <;> rfl⟩) (hF.grow (by omega) o1)
    rw [← hq] at key
    exact key
  · cases hk
theorem x_newa {n : Int32} (hx : p.tables.exec = Jvm.exec) (hb : c.code = cc) (hT : ∀ w ∈ lw_tbl, goodWord w = true → w.before args s = true) (hS : m_St D tc s) (hP : m_P D tc b sb h H) (hF : va_S (fun q => b ≤ q) s.heap H locs) (hn : h.length < m_scr) (hn0 : ¬ n < 0) (hn1 : n.toNatClampNeg ≤ 10000) (hcells : cells + 1 ≤ R.cells) (hslots : slots + n.toNatClampNeg ≤ R.slots) (hk : k_newa cc pc nx = true)
    (kk : ∀ (H1 : Heap), m_P D tc b sb (h ++ [.inr (.inl (List.replicate n.toNatClampNeg 0))]) H1 → va_S (fun q => b ≤ q) s.heap H1 locs → W p l e R s m args below meth c H1 locs (cells + 1) (slots + n.toNatClampNeg) Q (F0 m nx la (.ref (m_ad b sb h.length) :: st))) : W p l e R s m args below meth c H locs cells slots Q (F0 m pc la (.int n :: st)) := by
  unfold k_newa at hk
  simp only [Bool.and_eq_true, decide_eq_true_eq] at hk
  obtain ⟨⟨h2, w1⟩, hk⟩ := hk
  subst h2
  split at hk
  · rename_i t hd
    have ht : newarray.typeOf t = .int := of_decide_eq_true hk
    refine va_newaK hx hb (by rw [ht]; exact hT _ (m_in_ok w1).1 (m_in_ok w1).2) rfl hd rfl hn0 rfl (by rw [ht]; show _ * 4 ≤ _; omega) hcells hslots rfl fun H1 cA e1 z1 o1 hAr hNm => ?_
    rw [ht] at e1 hNm
    have hcA : cA = tc 0 := by
      have h0 : va_RA s (tc 0) .int := (hS.1.2 0 _ rfl).2
      exact Option.some.inj (hNm.symm.trans h0)
    subst hcA
    have hq : H.size = m_ad b sb h.length := by rw [hP.1, m_ad_ne (Nat.ne_of_lt hn)]
    have key := kk H1 (hP.push z1 o1 (by
      show H1[b + h.length]? = some (vp_cell _ _)
      rw [← hP.1, e1, vp_cell_i, List.length_replicate]
      congr 2
      funext j
      rw [List.getD_eq_getElem?_getD, List.getElem?_replicate]
      split <;> rfl)) (hF.grow (by omega) o1)
    rw [← hq] at key
    exact key
  · cases hk
theorem x_newq {own : String} {w kd : Nat} {n : Int32} (hx : p.tables.exec = Jvm.exec) (hb : c.code = cc) (hown : s.vm.findClass own = some m.cls) (hT : ∀ w ∈ lw_tbl, goodWord w = true → w.before args s = true) (hS : m_St D tc s) (hP : m_P D tc b sb h H) (hF : va_S (fun q => b ≤ q) s.heap H locs) (hn : h.length < m_scr) (hn0 : ¬ n < 0) (hn1 : n.toNatClampNeg ≤ 10000) (hkd : kd = 1 ∨ kd = 2) (hcells : cells + 1 ≤ R.cells) (hslots : slots + n.toNatClampNeg ≤ R.slots) (hk : k_newq own cc pc nx w kd = true)
    (kk : ∀ (H1 : Heap), m_P D tc b sb (h ++ [.inr (.inr (kd, List.replicate n.toNatClampNeg none))]) H1 → va_S (fun q => b ≤ q) s.heap H1 locs → W p l e R s m args below meth c H1 locs (cells + 1) (slots + n.toNatClampNeg) Q (F0 m nx la (.ref (m_ad b sb h.length) :: st))) : W p l e R s m args below meth c H locs cells slots Q (F0 m pc la (.int n :: st)) := by
  unfold k_newq at hk
  simp only [Bool.and_eq_true, decide_eq_true_eq] at hk
  obtain ⟨⟨h2, w1⟩, hk⟩ := hk
  subst h2
  split at hk
  · rename_i z hd
    have hov : (Cond.arrayOver (.object (m_kn kd))).before args s = true := hS.2.2 _ (List.mem_of_getElem? w1)
    refine W.anew hx hb hown (hT _ (m_in_ok hk).1 (m_in_ok hk).2) hov rfl hd rfl hn0 (by omega) hcells hslots fun cA kA comp f1 f2 f3 f4 => ?_
    have hcA : cA = tc kd := by
      rcases hkd with rfl | rfl
      · obtain ⟨_, _, -, -, -, h0⟩ := (hS.1.2 1 _ rfl).2
        exact Option.some.inj (f1.symm.trans h0)
      · obtain ⟨_, _, -, -, -, h0⟩ := (hS.1.2 2 _ rfl).2
        exact Option.some.inj (f1.symm.trans h0)
    subst hcA
    generalize hH1 : H.push ({ cls := tc kd, slots := Array.replicate n.toNatClampNeg .null, vm := .none } : Cell) = H1
    have z1 : H1.size = H.size + 1 := by rw [← hH1, Array.size_push]
    have e1 : H1[H.size]? = some (arrV (tc kd) n.toNatClampNeg (fun _ => .null)) := by rw [← hH1, Array.getElem?_push_size, ← arrV_new]
    have o1 : ∀ q : Nat, q < H.size → H1[q]? = H[q]? := fun q hq => by rw [← hH1, Array.getElem?_push, if_neg (Nat.ne_of_lt hq)]
    have hq : H.size = m_ad b sb h.length := by rw [hP.1, m_ad_ne (Nat.ne_of_lt hn)]
    have key := kk H1 (hP.push z1 o1 (by
      show H1[b + h.length]? = some (vp_cell _ _)
      rw [← hP.1, e1, vp_cell_q, List.length_replicate]
      congr 2
      funext j
      rw [List.getD_eq_getElem?_getD, List.getElem?_replicate]
      split <;> rfl)) (hF.grow (by omega) o1)
    rw [← hq] at key
    exact key
  · cases hk
theorem m_innerI (cy : ClassId) (q : Nat) : Jvm.Free.Multi.innerC cy q (defaultValue .int) = vp_cell cy ((List.replicate q (0 : Int32)).length, .inl (fun j => (List.replicate q (0 : Int32)).getD j 0)) := by
  rw [vp_cell_i, List.length_replicate]
  show ({ cls := cy, slots := Array.replicate q (.int 0), vm := .none } : Cell) = _
  rw [arrV_new]
  congr 1
  funext j
  rw [List.getD_eq_getElem?_getD, List.getElem?_replicate]
  split <;> rfl
theorem m_outerI (cA : ClassId) (N h0 : Nat) : ∀ i : Nat, Jvm.Free.Multi.outerC cA N h0 i = arrV cA N (fun j => va_rf (if j < i then some (h0 + 1 + j) else none))
  | 0 => by
    show ({ cls := cA, slots := Array.replicate N .null, vm := .none } : Cell) = _
    rw [arrV_new]
    refine congrArg (arrV cA N) (funext fun j => ?_)
    simp [va_rf]
  | i + 1 => by
    show (Jvm.Free.Multi.outerC cA N h0 i).setSlot i (.ref (h0 + 1 + i)) = _
    rw [m_outerI cA N h0 i, arrV_store]
    refine congrArg (arrV cA N) (funext fun j => ?_)
    by_cases e : j = i
    · subst e
      simp [updV, va_rf]
    · by_cases h : j < i
      · simp [updV, e, h, Nat.lt_succ_of_lt h]
      · simp [updV, e, h, show ¬ j < i + 1 by omega]
theorem x_multi {own : String} {w : Nat} {n q : Int32} (hx : p.tables.exec = Jvm.exec) (hb : c.code = cc) (hown : s.vm.findClass own = some m.cls) (hT : ∀ w ∈ lw_tbl, goodWord w = true → w.before args s = true) (hS : m_St D tc s) (hP : m_P D tc b sb h H) (hF : va_S (fun q => b ≤ q) s.heap H locs) (hn : h.length + 1 + n.toNatClampNeg < m_scr) (hn0 : ¬ n < 0) (hq0 : ¬ q < 0) (hn1 : n.toNatClampNeg ≤ 10000) (hq1 : q.toNatClampNeg ≤ 10000) (hcells : cells + (1 + n.toNatClampNeg) ≤ R.cells) (hslots : slots + (n.toNatClampNeg + n.toNatClampNeg * q.toNatClampNeg) ≤ R.slots) (hk : k_multi own cc pc nx w = true)
    (kk : ∀ (H1 : Heap), m_P D tc b sb (h ++ (.inr (.inr (3, (List.range n.toNatClampNeg).map fun i => some (h.length + 1 + i))) :: List.replicate n.toNatClampNeg (.inr (.inl (List.replicate q.toNatClampNeg 0))))) H1 → va_S (fun q => b ≤ q) s.heap H1 locs → W p l e R s m args below meth c H1 locs (cells + 1 + n.toNatClampNeg) (slots + n.toNatClampNeg + n.toNatClampNeg * q.toNatClampNeg) Q (F0 m nx la (.ref (m_ad b sb h.length) :: st))) : W p l e R s m args below meth c H locs cells slots Q (F0 m pc la (.int q :: .int n :: st)) := by
  unfold k_multi at hk
  simp only [Bool.and_eq_true, decide_eq_true_eq] at hk
  obtain ⟨⟨⟨h2, w1⟩, w2⟩, hk⟩ := hk
  subst h2
  split at hk
  · rename_i z hd
    have hov : (Cond.arrayOver (.array .int)).before args s = true := hS.2.2 _ (List.mem_of_getElem? w2)
    intro T hTT Xs
    obtain ⟨vm₁, cA, comp, -, fA, fC, hO, -, X', step⟩ := Xs.multianewarray2F (ty := .int) hx hown (hT _ (m_in_ok hk).1 (m_in_ok hk).2) hov (hT _ (m_in_ok w1).1 (m_in_ok w1).2) (g := F0 m pc la (.int q :: .int n :: st)) rfl (by rw [hb]; exact hd) rfl hn0 hq0 (by omega) (by show _ * 4 ≤ _; omega) (by omega) rfl rfl hcells hslots
    have hcA : cA = tc 3 := by
      have h0 : va_RA s (tc 3) (.array .int) := (hS.1.2 3 _ rfl).2
      exact Option.some.inj (fA.symm.trans h0)
    have hcy : comp = tc 0 := by
      have h0 : va_RA s (tc 0) .int := (hS.1.2 0 _ rfl).2
      exact Option.some.inj (fC.symm.trans h0)
    subst hcA
    subst hcy
    generalize hFF : Jvm.Free.Multi.fill (T.setVm vm₁) (tc 3) (tc 0) n.toNatClampNeg q.toNatClampNeg (defaultValue .int) n.toNatClampNeg = F at X' step
    have hTh : (T.setVm vm₁).heap = H := hTT
    obtain ⟨f1, f2, -, -⟩ := Jvm.Free.Multi.fill_facts (T.setVm vm₁) (tc 3) (tc 0) n.toNatClampNeg q.toNatClampNeg (defaultValue .int) n.toNatClampNeg
    rw [hFF, hTh] at f1 f2
    have hold : ∀ x : Nat, x < H.size → F.heap[x]? = H[x]? := fun x hx => by
      have := Jvm.Free.Multi.fill_old (T.setVm vm₁) (tc 3) (tc 0) n.toNatClampNeg q.toNatClampNeg (defaultValue .int) (a := x) (by rw [hTh]; exact hx) n.toNatClampNeg
      rw [hFF, hTh] at this
      exact this
    have hrow : ∀ j : Nat, j < n.toNatClampNeg → F.heap[H.size + 1 + j]? = some (Jvm.Free.Multi.innerC (tc 0) q.toNatClampNeg (defaultValue .int)) := fun j hj => by
      have := Jvm.Free.Multi.fill_inner (T.setVm vm₁) (tc 3) (tc 0) n.toNatClampNeg q.toNatClampNeg (defaultValue .int) n.toNatClampNeg j hj
      rw [hFF, hTh] at this
      exact this
    have hq : H.size = m_ad b sb h.length := by rw [hP.1, m_ad_ne (by omega)]
    obtain ⟨t, a1, b1⟩ := kk F.heap ⟨by rw [f1, hP.1, List.length_append, List.length_cons, List.length_replicate]; omega, fun k x hx => by
      by_cases hl : k < h.length
      · rw [List.getElem?_append_left hl] at hx
        exact (hP.2 k x hx).kept (hold _ (by show b + k < H.size; rw [hP.1]; omega))
      · rw [List.getElem?_append_right (by omega)] at hx
        by_cases h0 : k = h.length
        · subst h0
          rw [Nat.sub_self] at hx
          cases hx
          show F.heap[b + h.length]? = some (vp_cell _ _)
          rw [← hP.1, f2, m_outerI, vp_cell_q, List.length_map, List.length_range]
          refine congrArg some (congrArg (fun (f : Fin n.toNatClampNeg → Value) => ({ cls := tc 3, slots := Array.ofFn f, vm := .none } : Cell)) (funext fun j => ?_))
          show va_rf (if j.val < _ then _ else _) = va_rf _
          rw [if_pos j.isLt, List.getD_eq_getElem?_getD, List.getElem?_map, List.getElem?_range j.isLt]
          show va_rf (some _) = va_rf (some (m_ad b sb _))
          rw [m_ad_ne (by have := j.isLt; omega), hP.1]
          congr 2
          omega
        · rw [show k - h.length = (k - h.length - 1) + 1 by omega, List.getElem?_cons_succ, List.getElem?_replicate] at hx
          split at hx
          · rename_i hlt
            cases hx
            show F.heap[b + k]? = some (vp_cell _ _)
            rw [show b + k = H.size + 1 + (k - h.length - 1) by rw [hP.1]; omega, hrow _ hlt, m_innerI]
          · cases hx⟩ (hF.grow (by rw [f1]; omega) hold) F rfl X'
    refine ⟨t, step t ?_, b1⟩
    have e : T.heap.size = m_ad b sb h.length := by rw [hTT]; exact hq
    rw [e]
    exact a1
  · cases hk
theorem x_oin {own : String} {w a : Nat} (hx : p.tables.exec = Jvm.exec) (hb : c.code = cc) (hml : la.size = c.maxLocals) (hown : s.vm.findClass own = some m.cls) (hT : ∀ w ∈ lw_tbl, goodWord w = true → w.before args s = true) (hfr : 1 ≤ R.frames) (hlo : (st.map fun v => v.category).sum + 12 ≤ R.locals) (hk : k_oin own cc pc nx w = true)
    (kk : W p l e R s m args below meth c H locs cells slots Q (F0 m nx la st)) : W p l e R s m args below meth c H locs cells slots Q (F0 m pc la (.ref a :: st)) := by
  unfold k_oin at hk
  simp only [Bool.and_eq_true, decide_eq_true_eq] at hk
  obtain ⟨⟨⟨h2, w1⟩, w2⟩, hk⟩ := hk
  subst h2
  split at hk
  · rename_i z hd
    exact W.objInit hx hb hown (hT _ (m_in_ok hk).1 (m_in_ok hk).2) (hT _ (m_in_ok w1).1 (m_in_ok w1).2) (hT _ (m_in_ok w2).1 (m_in_ok w2).2) rfl hml rfl hd hfr (by show 2 * 0 + _ + 12 ≤ _; omega) kk
  · cases hk
theorem x_max {own : String} {w : Nat} {x y : Int32} (hx : p.tables.exec = Jvm.exec) (hb : c.code = cc) (hml : c.maxLocals = la.size) (hown : s.vm.findClass own = some m.cls) (hT : ∀ w ∈ lw_tbl, goodWord w = true → w.before args s = true) (hfr : 1 ≤ R.frames) (hlo : (st.map fun v => v.category).sum + 13 ≤ R.locals) (hcl : cells ≤ R.cells) (hsl : slots ≤ R.slots) (hk : k_max own cc pc nx w = true)
    (kk : W p l e R s m args below meth c H locs cells slots Q (F0 m nx la (.int (if x < y then y else x) :: st))) : W p l e R s m args below meth c H locs cells slots Q (F0 m pc la (.int y :: .int x :: st)) := by
  unfold k_max at hk
  simp only [Bool.and_eq_true, decide_eq_true_eq] at hk
  obtain ⟨⟨⟨⟨h2, w1⟩, w2⟩, w3⟩, hk⟩ := hk
  subst h2
  split at hk
  · rename_i z hd
    exact va_mmax hx hb hml hown (hT _ (m_in_ok hk).1 (m_in_ok hk).2) (hT _ (m_in_ok w1).1 (m_in_ok w1).2) (hT _ (m_in_ok w2).1 (m_in_ok w2).2) (hT _ (m_in_ok w3).1 (m_in_ok w3).2) hfr hlo hcl hsl hd kk
  · cases hk
theorem x_min {own : String} {w : Nat} {x y : Int32} (hx : p.tables.exec = Jvm.exec) (hb : c.code = cc) (hml : c.maxLocals = la.size) (hown : s.vm.findClass own = some m.cls) (hT : ∀ w ∈ lw_tbl, goodWord w = true → w.before args s = true) (hfr : 1 ≤ R.frames) (hlo : (st.map fun v => v.category).sum + 13 ≤ R.locals) (hcl : cells ≤ R.cells) (hsl : slots ≤ R.slots) (hk : k_min own cc pc nx w = true)
    (kk : W p l e R s m args below meth c H locs cells slots Q (F0 m nx la (.int (if y < x then y else x) :: st))) : W p l e R s m args below meth c H locs cells slots Q (F0 m pc la (.int y :: .int x :: st)) := by
  unfold k_min at hk
  simp only [Bool.and_eq_true, decide_eq_true_eq] at hk
  obtain ⟨⟨⟨⟨h2, w1⟩, w2⟩, w3⟩, hk⟩ := hk
  subst h2
  split at hk
  · rename_i z hd
    exact va_mmin hx hb hml hown (hT _ (m_in_ok hk).1 (m_in_ok hk).2) (hT _ (m_in_ok w1).1 (m_in_ok w1).2) (hT _ (m_in_ok w2).1 (m_in_ok w2).2) (hT _ (m_in_ok w3).1 (m_in_ok w3).2) hfr hlo hcl hsl hd kk
  · cases hk
end MR3
