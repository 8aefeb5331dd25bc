/-! a row for each numbered instruction that reads or writes a cell -/
def m_TB : List Cond := lw_tbl.filter goodWord
theorem m_hts {args : Array Value} {s : State} (hT : ∀ w ∈ lw_tbl, goodWord w = true → w.before args s = true) : ∀ w ∈ m_TB, w.before args s = true := fun w h => hT w (List.mem_filter.mp h).1 (List.mem_filter.mp h).2
theorem m_inT {i : Nat} {w : Cond} (h : m_in i w = true) : w ∈ m_TB := List.mem_filter.mpr (m_in_ok h)
theorem m_cl_get {ci : Nat} (h : ci < 8) : m_cl[ci]? = some (m_C ci) := by
  unfold m_C
  rw [List.getD_eq_getElem?_getD, List.getElem?_eq_getElem (show ci < m_cl.length from h)]
  rfl
theorem m_cls_ok {ci k : Nat} (hc : ci < 8) (hk : k < (m_C ci).2.2) : u_lay (m_C ci).1 (m_C ci).2.1 k ∈ m_TB ∧ parseFieldDescriptor ((m_C ci).2.1 k).2.2.1 = some (m_ty ci k) ∧ ((m_C ci).2.1 k).1 = (m_C ci).1 ∧ defaultValue (m_ty ci k) = m_dv ((m_def.getD ci []).getD k (.inr none)) ∧
    ((m_def.getD ci []).getD k (.inr none) = .inl 0 ∨ (m_def.getD ci []).getD k (.inr none) = .inr none) ∧ (∀ j, j < (m_C ci).2.2 → j ≠ k → ((m_C ci).2.1 j).2.1 ≠ ((m_C ci).2.1 k).2.1) ∧ (m_def.getD ci []).length = (m_C ci).2.2 := by
  have h := List.all_eq_true.mp m_clsok_ok ci (List.mem_range.mpr hc)
  simp only [Bool.and_eq_true, decide_eq_true_eq] at h
  have h2 := List.all_eq_true.mp h.2 k (List.mem_range.mpr hk)
  simp only [Bool.and_eq_true, decide_eq_true_eq] at h2
  obtain ⟨⟨⟨⟨⟨a1, a2⟩, a3⟩, a4⟩, a5⟩, a6⟩ := h2
  refine ⟨m_inT a1, a2, a3, a4, a5, fun j hj hne => ?_, h.1⟩
  have h3 := List.all_eq_true.mp a6 j (List.mem_range.mpr hj)
  simp only [Bool.or_eq_true, decide_eq_true_eq] at h3
  exact h3.resolve_left hne
theorem m_uws {ci : Nat} (hc : ci < 8) : ∀ w ∈ u_ws (m_C ci).1 (m_C ci).2.1 (m_C ci).2.2, w ∈ m_TB := fun w hw => by
  obtain ⟨k, hk, rfl⟩ := List.mem_map.mp hw
  exact (m_cls_ok hc (List.mem_range.mp hk)).1
theorem m_tyok {ci : Nat} (hc : ci < 8) : ∀ k, k < (m_C ci).2.2 → parseFieldDescriptor ((m_C ci).2.1 k).2.2.1 = some (m_ty ci k) := fun _ hk => (m_cls_ok hc hk).2.1
theorem m_nmok {ci : Nat} (hc : ci < 8) : ∀ a, a < (m_C ci).2.2 → ∀ b, b < (m_C ci).2.2 → a ≠ b → ((m_C ci).2.1 a).2.1 ≠ ((m_C ci).2.1 b).2.1 := fun a ha b hb hne => (m_cls_ok hc hb).2.2.2.2.2.1 a ha hne
section MR2
variable {p : Program} {l : Launch} {e : Env} {R : Room} {s : State} {m : MethodId} {args : Array Value} {below : List Frame} {meth : Method} {c : Code} {H : Heap} {locs : List Loc} {cells slots : Nat} {Q : State → Prop}
variable {cc : ByteArray} {pc nx : Nat} {la : Array Slot} {b sb nL : Nat} {D : va_G} {tc : Nat → ClassId} {h : MH} {st : List Value}
theorem x_getf {own : String} {w fl ci j a : Nat} {fs : List MV} {v : MV} (hx : p.tables.exec = Jvm.exec) (hb : c.code = cc) (hown : s.vm.findClass own = some m.cls) (hT : ∀ w ∈ lw_tbl, goodWord w = true → w.before args s = true) (hS : m_St D tc s) (hP : m_P D tc b sb h H) (ha : m_cell h a = some (.inl (ci, fs))) (hv : fs[j]? = some v) (hk : k_getf own cc pc nx w fl ci j = true)
    (kk : W p l e R s m args below meth c H locs cells slots Q (F0 m nx la (m_v b sb v :: st))) : W p l e R s m args below meth c H locs cells slots Q (F0 m pc la (.ref (m_ad b sb a) :: st)) := by
  obtain ⟨hne, hg⟩ := m_cell_some ha
  rw [m_ad_ne hne]
  unfold k_getf at hk
  simp only [Bool.and_eq_true, decide_eq_true_eq] at hk
  obtain ⟨⟨⟨h2, hc⟩, hj⟩, hk⟩ := hk
  subst h2
  have hd := (m_cls_ok hc hj).2.2.1
  have hv' : (fs.map (m_v b sb))[j]? = some (m_v b sb v) := by rw [List.getElem?_map, hv]; rfl
  split at hk
  · rename_i z hdec
    split at hk
    · exact va_get (D := D) (ci := ci) (v := m_v b sb v) (C := (m_C ci).1) (T := (m_C ci).2.1) (N := (m_C ci).2.2) hx hb (m_hts hT) (m_uws hc) hown hS.1 (hP.one hg) 0 rfl (m_cl_get hc) j hj (hT _ (m_in_ok hk).1 (m_in_ok hk).2) (fun x q => by rw [hd] at q; exact q) hv' hdec kk
    · exact va_getN (D := D) (ci := ci) (v := m_v b sb v) (C := (m_C ci).1) (T := (m_C ci).2.1) (N := (m_C ci).2.2) hx hb (m_hts hT) (m_uws hc) hown hS.1 (hP.one hg) 0 rfl (m_cl_get hc) j hj (va_Nw.use rfl (hS.2.1 _ (m_inN_ok hk).1 (m_inN_ok hk).2)) (fun x q => by rw [hd] at q; exact q) hv' hdec kk
  · cases hk
theorem x_putf {own : String} {w ci j a : Nat} {f : Int32} {fs : List MV} {v : MV} (hx : p.tables.exec = Jvm.exec) (hb : c.code = cc) (hown : s.vm.findClass own = some m.cls) (hT : ∀ w ∈ lw_tbl, goodWord w = true → w.before args s = true) (hS : m_St D tc s) (hP : m_P D tc b sb h H) (hF : va_S (fun q => b ≤ q) s.heap H locs) (ha : m_cell h a = some (.inl (ci, fs))) (hl : j < fs.length) (hm : m_kind f v = true) (hk : k_putf own meth.name cc pc nx w ci j f = true)
    (kk : ∀ (H1 : Heap) (locs1 : List Loc), m_P D tc b sb (h.set a (.inl (ci, fs.set j v))) H1 → va_S (fun q => b ≤ q) s.heap H1 locs1 → W p l e R s m args below meth c H1 locs1 cells slots Q (F0 m nx la st)) : W p l e R s m args below meth c H locs cells slots Q (F0 m pc la (m_v b sb v :: .ref (m_ad b sb a) :: st)) := by
  obtain ⟨hne, hg⟩ := m_cell_some ha
  rw [m_ad_ne hne]
  unfold k_putf at hk
  simp only [Bool.and_eq_true, decide_eq_true_eq] at hk
  obtain ⟨⟨⟨⟨⟨h2, hc⟩, hj⟩, hty⟩, hfin⟩, hk⟩ := hk
  subst h2
  have hdd := (m_cls_ok hc hj).2.2.1
  have hd := m_tyok hc j hj
  have hts := m_hts hT
  have hin := m_uws hc
  have hnf : narrow (m_ty ci j) (m_v b sb v) = m_v b sb v ∧ fits (m_ty ci j) (m_v b sb v) = true := by
    by_cases hf : f = 0
    · rw [if_pos hf] at hty
      obtain ⟨x, rfl⟩ := m_kind_0 hm hf
      rw [of_decide_eq_true hty]
      exact ⟨rfl, rfl⟩
    · rw [if_neg hf] at hty
      obtain ⟨x, rfl⟩ := m_kind_1 hm hf
      generalize m_ty ci j = ty at hty ⊢
      cases ty <;> first | exact ⟨rfl, rfl⟩ | cases hty
  have hap := va_apart (own := own) hts hin (m_ty ci) (m_tyok hc) (m_nmok hc) hS.1 (m_cl_get hc)
  obtain ⟨r, h1, cell, q1, q2, q3, q4⟩ := hP.2 a _ hg
  have hr : r = m_C ci := Option.some.inj (h1.symm.trans (m_cl_get hc))
  subst hr
  obtain ⟨hS', hfc, kC, hkC, hkind⟩ := hS.1.1 ci _ (m_cl_get hc)
  obtain ⟨cf, kf, fi, fd, hi, hsl⟩ := hS' j hj
  have hst := (u_facts hfc hkC (u_lays hts hin hj) hi).1
  have hi2 : s.fieldFound? (m_C ci).1 ((m_C ci).2.1 j).2.1 ((m_C ci).2.1 j).2.2.1 = some (cf, kf, fi, fd) := by rw [← hdd]; exact hi
  have hlay := hts _ (hin _ (u_in_lay hj))
  have fin : ∀ H' : Heap, H'[b + a]? = some (cell.setSlot ((D.2 ci) j) (m_v b sb v)) → H'.size = H.size → (∀ q, q ≠ b + a → H'[q]? = H[q]?) → W p l e R s m args below meth c H' (locs ++ [⟨b + a, (D.2 ci) j⟩]) cells slots Q (F0 m (pc + 3) la st) := by
    intro H' e1 e2 e3
    refine kk H' _ (hP.set hg e2 e3 ⟨_, m_cl_get hc, ?_⟩) (hF.put e2 e3 (Nat.le_add_right b a))
    refine t_OB.to (V := updV (vp_V (fs.map (m_v b sb))) j (m_v b sb v)) ⟨_, e1, q2, q3, t_set q4 hap hj _⟩ (fun i _ => ?_)
    rw [vp_updV_set (by rw [List.length_map]; exact hl), List.map_set]
  split at hk
  · rename_i z hdec
    have hlink := hT _ (m_in_ok hk).1 (m_in_ok hk).2
    unfold u_lay at hlay
    cases hf : ((m_C ci).2.1 j).2.2.2 with
    | false =>
      rw [if_neg (by rw [hf]; decide)] at hlay
      have h6 := u_store hfc hkC hkind hlay hi hd hnf.1 hnf.2
      refine W.putK hx hb (f := fd) ⟨hown, hlink, ⟨_, _, _, hi2⟩, hst⟩ (by rw [q2]; exact h6) q1 q3 (by rw [hsl]; exact k2_hasslot (q4 j hj)) rfl rfl hdec fun H' e1 e2 e3 => ?_
      rw [hsl] at e1 ⊢
      exact fin H' e1 e2 e3
    | true =>
      rw [if_pos hf] at hlay
      rw [hf] at hfin
      simp only [Bool.not_true, Bool.false_or, Bool.and_eq_true, decide_eq_true_eq] at hfin
      have hcf : m.cls = cf := by
        obtain ⟨_, _, c', _, _, _, -, -, hf', -, -, -, hown2, -⟩ := Cond.laysFinal_spec hlay
        have e1 : c' = cf := by have := hi.symm.trans hf'; simp at this; exact this.1.symm
        rw [hdd, hfin.2] at hown2
        rw [← e1]; exact Option.some.inj (hown.symm.trans hown2)
      have h6 := u_fits hfc hkC hkind (Or.inr hlay) hi hd hnf.1 hnf.2
      refine W.putFinK hx hb hown hlink hi2 hst hcf hfin.1 (by rw [q2]; exact h6) q1 q3 (by rw [hsl]; exact k2_hasslot (q4 j hj)) rfl rfl hdec fun H' e1 e2 e3 => ?_
      rw [hsl] at e1 ⊢
      exact fin H' e1 e2 e3
  · cases hk
theorem x_iald {a : Nat} {i : Int32} {li : List Int32} {x : Int32} (hx : p.tables.exec = Jvm.exec) (hb : c.code = cc) (hS : m_St D tc s) (hP : m_P D tc b sb h H) (hne : a ≠ m_scr) (ha : h[a]? = some (.inr (.inl li))) (hi : ¬ i < 0) (hv : li[i.toNatClampNeg]? = some x) (hk : k_one cc pc nx .iaload = true)
    (kk : W p l e R s m args below meth c H locs cells slots Q (F0 m nx la (.int x :: st))) : W p l e R s m args below meth c H locs cells slots Q (F0 m pc la (.int i :: .ref (m_ad b sb a) :: st)) := by
  obtain ⟨hd, rfl⟩ := k_one_ok hk
  rw [m_ad_ne hne]
  have hlt : i.toNatClampNeg < li.length := (List.getElem?_eq_some_iff.mp hv).1
  refine va_iald (D := D) hx hb hS.1 (hP.one ha) 0 0 rfl rfl (fun q => q.elim hi (fun q => by omega)) hd ?_
  have : li.getD i.toNatClampNeg 0 = x := by rw [List.getD_eq_getElem?_getD, hv]; rfl
  rw [this]
  exact kk
theorem x_scr {S : Nat × (Nat → Int32)} {i : Int32} (hx : p.tables.exec = Jvm.exec) (hb : c.code = cc) (hX : va_X sb S.1 S.2 s s.heap) (hl : sb < b) (hbs : b ≤ s.heap.size) (hF : va_S (fun q => b ≤ q) s.heap H locs) (hi : ¬ i < 0) (hlt : i.toNatClampNeg < S.1) (hk : k_one cc pc nx .iaload = true)
    (kk : W p l e R s m args below meth c H locs cells slots Q (F0 m nx la (.int (S.2 i.toNatClampNeg) :: st))) : W p l e R s m args below meth c H locs cells slots Q (F0 m pc la (.int i :: .ref (m_ad b sb m_scr) :: st)) := by
  obtain ⟨hd, rfl⟩ := k_one_ok hk
  exact va_sld hx hb hX (Nat.lt_of_lt_of_le hl hbs) (by show ¬ b ≤ sb; omega) hF (fun q => q.elim hi (fun q => by omega)) hd kk
theorem x_slen {S : Nat × (Nat → Int32)} (hx : p.tables.exec = Jvm.exec) (hb : c.code = cc) (hX : va_X sb S.1 S.2 s s.heap) (hl : sb < b) (hbs : b ≤ s.heap.size) (hF : va_S (fun q => b ≤ q) s.heap H locs) (hk : k_one cc pc nx .arraylength = true)
    (kk : W p l e R s m args below meth c H locs cells slots Q (F0 m nx la (.int (Int32.ofNat S.1) :: st))) : W p l e R s m args below meth c H locs cells slots Q (F0 m pc la (.ref (m_ad b sb m_scr) :: st)) := by
  obtain ⟨hd, rfl⟩ := k_one_ok hk
  exact va_slen hx hb hX (Nat.lt_of_lt_of_le hl hbs) (by show ¬ b ≤ sb; omega) hF hd kk
theorem m_setI {li : List Int32} {n : Nat} {x : Int32} (hn : n < li.length) : (fun j => Value.int ((li.set n x).getD j 0)) = updV (fun j => Value.int (li.getD j 0)) n (.int x) := by
  funext j
  unfold updV
  by_cases hj : j = n
  · subst hj
    rw [if_pos rfl, List.getD_eq_getElem?_getD, List.getElem?_set_self hn]
    rfl
  · rw [if_neg hj, List.getD_eq_getElem?_getD, List.getElem?_set_ne (Ne.symm hj), ← List.getD_eq_getElem?_getD]
theorem x_iast {a : Nat} {i x : Int32} {li : List Int32} (hx : p.tables.exec = Jvm.exec) (hb : c.code = cc) (hS : m_St D tc s) (hP : m_P D tc b sb h H) (hF : va_S (fun q => b ≤ q) s.heap H locs) (ha : m_cell h a = some (.inr (.inl li))) (hi : ¬ i < 0) (hlt : i.toNatClampNeg < li.length) (hk : k_one cc pc nx .iastore = true)
    (kk : ∀ (H1 : Heap) (locs1 : List Loc), m_P D tc b sb (h.set a (.inr (.inl (li.set i.toNatClampNeg x)))) H1 → va_S (fun q => b ≤ q) s.heap H1 locs1 → W p l e R s m args below meth c H1 locs1 cells slots Q (F0 m nx la st)) : W p l e R s m args below meth c H locs cells slots Q (F0 m pc la (.int x :: .int i :: .ref (m_ad b sb a) :: st)) := by
  obtain ⟨hne, hg⟩ := m_cell_some ha
  rw [m_ad_ne hne]
  obtain ⟨hd, rfl⟩ := k_one_ok hk
  have hcell : H[b + a]? = some (vp_cell (tc 0) (li.length, .inl (fun j => li.getD j 0))) := hP.2 a _ hg
  refine W.iast hx hb hcell ((hS.1.2 0 _ rfl).1 li.length (fun j => .int (li.getD j 0))) (fun q => by cases q) (by show ¬ (i < 0 ∨ (arrV _ _ _).slots.size ≤ _); rw [arrV_size]; exact fun q => q.elim hi (fun q => by omega)) rfl rfl hd fun H1 e z oq => ?_
  refine kk H1 _ (hP.set hg z oq ?_) (hF.put z oq (Nat.le_add_right b a))
  show H1[b + a]? = some (vp_cell _ _)
  rw [e, vp_cell_i, arrV_store, List.length_set, vp_cell_i, m_setI hlt]
theorem x_aald {a kd : Nat} {i : Int32} {lq : List (Option Nat)} {x : Option Nat} (hx : p.tables.exec = Jvm.exec) (hb : c.code = cc) (hS : m_St D tc s) (hP : m_P D tc b sb h H) (ha : m_cell h a = some (.inr (.inr (kd, lq)))) (hkd : kd < 4 ∧ 0 < kd) (hi : ¬ i < 0) (hv : lq[i.toNatClampNeg]? = some x) (hk : k_one cc pc nx .aaload = true)
    (kk : W p l e R s m args below meth c H locs cells slots Q (F0 m nx la (m_v b sb (.inr x) :: st))) : W p l e R s m args below meth c H locs cells slots Q (F0 m pc la (.int i :: .ref (m_ad b sb a) :: st)) := by
  obtain ⟨hne, hg⟩ := m_cell_some ha
  rw [m_ad_ne hne]
  obtain ⟨hd, rfl⟩ := k_one_ok hk
  have hlt : i.toNatClampNeg < lq.length := (List.getElem?_eq_some_iff.mp hv).1
  have hcell : H[b + a]? = some (vp_cell (tc kd) (lq.length, .inr (.inr (.inr (.inr (fun j => (lq.getD j none).map (m_ad b sb))))))) := hP.2 a _ hg
  have hval : va_rf ((lq.getD i.toNatClampNeg none).map (m_ad b sb)) = m_v b sb (.inr x) := by
    rw [List.getD_eq_getElem?_getD, hv]
    cases x <;> rfl
  obtain ⟨ty, hty, hr⟩ : ∃ ty, (m_tys tc)[kd]? = some (tc kd, ty) ∧ ty.isReference = true := by
    rcases (show kd = 1 ∨ kd = 2 ∨ kd = 3 by omega) with rfl | rfl | rfl <;> exact ⟨_, rfl, rfl⟩
  refine W.aald (v := m_v b sb (.inr x)) (ty := ty) hx hb hcell ((hS.1.2 kd _ hty).1 lq.length (fun j => va_rf ((lq.getD j none).map (m_ad b sb)))) hr (fun q => by cases q) (by show ¬ (i < 0 ∨ (arrV _ _ _).slots.size ≤ _); rw [arrV_size]; exact fun q => q.elim hi (fun q => by omega)) ?_ rfl rfl hd kk
  show (arrV _ _ _).slots[_]? = _
  rw [arrV_read _ _ hlt, hval]
theorem x_aast {a v kd ci : Nat} {i : Int32} {lq : List (Option Nat)} {fs : List MV} (hx : p.tables.exec = Jvm.exec) (hb : c.code = cc) (hS : m_St D tc s) (hP : m_P D tc b sb h H) (hF : va_S (fun q => b ≤ q) s.heap H locs) (ha : m_cell h a = some (.inr (.inr (kd, lq)))) (hv : m_cell h v = some (.inl (ci, fs))) (hi : ¬ i < 0) (hlt : i.toNatClampNeg < lq.length) (hkd : kd = 1 ∨ kd = 2) (hci : ci = m_kc kd) (hk : k_one cc pc nx .aastore = true)
    (kk : ∀ (H1 : Heap) (locs1 : List Loc), m_P D tc b sb (h.set a (.inr (.inr (kd, lq.set i.toNatClampNeg (some v))))) H1 → va_S (fun q => b ≤ q) s.heap H1 locs1 → W p l e R s m args below meth c H1 locs1 cells slots Q (F0 m nx la st)) : W p l e R s m args below meth c H locs cells slots Q (F0 m pc la (.ref (m_ad b sb v) :: .int i :: .ref (m_ad b sb a) :: st)) := by
  obtain ⟨hne, hg⟩ := m_cell_some ha
  obtain ⟨hnv, hgv⟩ := m_cell_some hv
  rw [m_ad_ne hne, m_ad_ne hnv]
  obtain ⟨hd, rfl⟩ := k_one_ok hk
  have hcell : H[b + a]? = some (vp_cell (tc kd) (lq.length, .inr (.inr (.inr (.inr (fun j => (lq.getD j none).map (m_ad b sb))))))) := hP.2 a _ hg
  obtain ⟨r', hr', cellV, g1, g2, g3, -⟩ := hP.2 v _ hgv
  obtain ⟨ty, hty, hcn, hci8⟩ : ∃ ty, (m_tys tc)[kd]? = some (tc kd, ty) ∧ ty = .object (m_C ci).1 ∧ ci < 8 := by
    rcases hkd with rfl | rfl
    · subst hci; exact ⟨_, rfl, rfl, by decide⟩
    · subst hci; exact ⟨_, rfl, rfl, by decide⟩
  subst hcn
  have hcls := (hS.1.1 ci _ (m_cl_get hci8)).2
  obtain ⟨kA, comp, k1, k2, k3, -⟩ := (hS.1.2 kd _ hty).2
  have hcomp : comp = D.1 ci := Option.some.inj (k3.symm.trans hcls.1)
  subst hcomp
  obtain ⟨kC, hkC, -⟩ := hcls.2
  refine W.aast hx hb hcell (fun q h => by cases h) (fun h => by cases h) k1 k2 rfl hkC ⟨hi, by show _ < (arrV _ _ _).slots.size; rw [arrV_size]; exact hlt⟩ g1 (fun q h => by rw [g3] at h; cases h) (by rw [g2]; exact hkC) (by rw [g2]; exact va_assign hcls) rfl rfl hd fun H1 e z oq => ?_
  refine kk H1 _ (hP.set hg z oq ?_) (hF.put z oq (Nat.le_add_right b a))
  show H1[b + a]? = some (vp_cell _ _)
  rw [e, vp_cell_q, arrV_store, List.length_set, vp_cell_q]
  congr 2
  funext j
  unfold updV
  by_cases hj : j = i.toNatClampNeg
  · subst hj
    rw [if_pos rfl, List.getD_eq_getElem?_getD, List.getElem?_set_self hlt]
    show Value.ref (b + v) = va_rf (some (m_ad b sb v))
    rw [m_ad_ne hnv]
    rfl
  · rw [if_neg hj]
    show va_rf ((lq.getD j none).map (m_ad b sb)) = va_rf (((lq.set i.toNatClampNeg (some v)).getD j none).map (m_ad b sb))
    rw [List.getD_eq_getElem?_getD, List.getD_eq_getElem?_getD, List.getElem?_set_ne (Ne.symm hj)]
end MR2
