/-! a row for each numbered instruction that needs no cell -/
section MR1
variable {p : Program} {l : Launch} {e : Env} {R : Room} {s : State} {m : MethodId} {args : Array Value} {below : List Frame} {meth : Method} {c : Code} {H : Heap} {locs : List Loc} {cells slots : Nat} {Q : State → Prop}
variable {cc : ByteArray} {pc nx : Nat} {la : Array Slot} {b sb nL : Nat}
theorem m_in_ok {i : Nat} {w : Cond} (h : m_in i w = true) : w ∈ lw_tbl ∧ goodWord w = true := by
  unfold m_in at h
  simp only [Bool.and_eq_true, decide_eq_true_eq] at h
  exact ⟨List.mem_of_getElem? h.1, h.2⟩
theorem m_inN_ok {i : Nat} {w : Cond} (h : m_inN i w = true) : w ∈ lw_tbl ∧ m_nest w = true := by
  unfold m_inN at h
  simp only [Bool.and_eq_true, decide_eq_true_eq] at h
  exact ⟨List.mem_of_getElem? h.1, h.2⟩
theorem x_push {own : String} {w : Nat} {v : Int32} {st : List Value} (hx : p.tables.exec = Jvm.exec) (hb : c.code = cc) (hown : s.vm.findClass own = some m.cls) (hT : ∀ w ∈ lw_tbl, goodWord w = true → w.before args s = true) (hk : k_push own cc pc nx w v = true)
    (kk : W p l e R s m args below meth c H locs cells slots Q (F0 m nx la (.int v :: st))) : W p l e R s m args below meth c H locs cells slots Q (F0 m pc la st) := by
  unfold k_push at hk
  split at hk
  · rename_i n hd
    simp only [Bool.and_eq_true, decide_eq_true_eq] at hk
    obtain ⟨h1, h2⟩ := hk
    subst h2
    exact lv_iconst hx hb hd h1 kk
  · rename_i n hd
    simp only [Bool.and_eq_true, decide_eq_true_eq] at hk
    obtain ⟨h1, h2⟩ := hk
    subst h2
    exact lv_bipush hx hb hd h1 kk
  · rename_i n hd
    simp only [Bool.and_eq_true, decide_eq_true_eq] at hk
    obtain ⟨h1, h2⟩ := hk
    subst h2
    exact lv_sipush hx hb hd h1 kk
  · rename_i n hd
    simp only [Bool.and_eq_true, decide_eq_true_eq] at hk
    obtain ⟨h1, h2⟩ := hk
    subst h2
    exact lv_ldc hx hb hown (hT _ (m_in_ok h1).1 (m_in_ok h1).2) hd kk
  · rename_i n hd
    simp only [Bool.and_eq_true, decide_eq_true_eq] at hk
    obtain ⟨h1, h2⟩ := hk
    subst h2
    exact lv_ldcw hx hb hown (hT _ (m_in_ok h1).1 (m_in_ok h1).2) hd kk
  · cases hk
theorem m_kind_0 {f : Int32} {v : MV} (h : m_kind f v = true) (hf : f = 0) : ∃ x : Int32, v = .inl x := by
  subst hf
  rcases v with x | (_ | a)
  · exact ⟨x, rfl⟩
  · cases h
  · exact absurd (of_decide_eq_true h : (0 : Int32) = 1) (by decide)
theorem m_kind_1 {f : Int32} {v : MV} (h : m_kind f v = true) (hf : ¬ f = 0) : ∃ a : Nat, v = .inr (some a) := by
  rcases v with x | (_ | a)
  · exact absurd (of_decide_eq_true h) hf
  · cases h
  · exact ⟨a, rfl⟩
theorem x_load {a : Nat} {f : Int32} {ls : ML} {v : MV} {st : List Value} (hx : p.tables.exec = Jvm.exec) (hb : c.code = cc) (hL : m_L b sb nL ls la) (hv : ls[a]? = some (some v)) (hm : m_kind f v = true) (hk : k_load cc pc nx a f = true)
    (kk : W p l e R s m args below meth c H locs cells slots Q (F0 m nx la (m_v b sb v :: st))) : W p l e R s m args below meth c H locs cells slots Q (F0 m pc la st) := by
  have hla := hL.2.2.2 a v hv
  unfold k_load at hk
  split at hk
  · rename_i n hd
    simp only [Bool.and_eq_true, decide_eq_true_eq] at hk
    obtain ⟨⟨h1, h3⟩, h2⟩ := hk
    subst h2; subst h1
    obtain ⟨x, rfl⟩ := m_kind_0 hm h3
    exact lv_iload hx hb hd hla kk
  · rename_i n hd
    simp only [Bool.and_eq_true, decide_eq_true_eq] at hk
    obtain ⟨⟨h1, h3⟩, h2⟩ := hk
    subst h2
    obtain ⟨x, rfl⟩ := m_kind_0 hm h3
    exact lv_iload_n hx hb hd h1 hla kk
  · rename_i n hd
    simp only [Bool.and_eq_true, decide_eq_true_eq] at hk
    obtain ⟨⟨h1, h3⟩, h2⟩ := hk
    subst h2; subst h1
    obtain ⟨x, rfl⟩ := m_kind_1 hm (by rw [h3]; decide)
    exact lv_aload hx hb hd hla kk
  · rename_i n hd
    simp only [Bool.and_eq_true, decide_eq_true_eq] at hk
    obtain ⟨⟨h1, h3⟩, h2⟩ := hk
    subst h2
    obtain ⟨x, rfl⟩ := m_kind_1 hm (by rw [h3]; decide)
    exact lv_aload_n hx hb hd h1 hla kk
  · cases hk
theorem x_store {a : Nat} {f : Int32} {ls : ML} {v : MV} {st : List Value} (hx : p.tables.exec = Jvm.exec) (hb : c.code = cc) (hL : m_L b sb nL ls la) (ha : a < ls.length) (hm : m_kind f v = true) (hk : k_store cc pc nx a f = true)
    (kk : ∀ la' : Array Slot, m_L b sb nL (ls.set a (some v)) la' → W p l e R s m args below meth c H locs cells slots Q (F0 m nx la' st)) : W p l e R s m args below meth c H locs cells slots Q (F0 m pc la (m_v b sb v :: st)) := by
  have hn : a < nL := by rw [← hL.2.1]; exact ha
  unfold k_store at hk
  split at hk
  · rename_i n hd
    simp only [Bool.and_eq_true, decide_eq_true_eq] at hk
    obtain ⟨⟨h1, h3⟩, h2⟩ := hk
    subst h2; subst h1
    obtain ⟨x, rfl⟩ := m_kind_0 hm h3
    exact lv_istore hx hb hd hL.has hn rfl (fun la' h' => kk la' (hL.store h'))
  · rename_i n hd
    simp only [Bool.and_eq_true, decide_eq_true_eq] at hk
    obtain ⟨⟨h1, h3⟩, h2⟩ := hk
    subst h2
    obtain ⟨x, rfl⟩ := m_kind_0 hm h3
    exact lv_istore_n hx hb hd h1 hL.has hn rfl (fun la' h' => kk la' (hL.store h'))
  · rename_i n hd
    simp only [Bool.and_eq_true, decide_eq_true_eq] at hk
    obtain ⟨⟨h1, h3⟩, h2⟩ := hk
    subst h2; subst h1
    obtain ⟨x, rfl⟩ := m_kind_1 hm (by rw [h3]; decide)
    exact lv_astore hx hb hd hL.has hn rfl (fun la' h' => kk la' (hL.store h'))
  · rename_i n hd
    simp only [Bool.and_eq_true, decide_eq_true_eq] at hk
    obtain ⟨⟨h1, h3⟩, h2⟩ := hk
    subst h2
    obtain ⟨x, rfl⟩ := m_kind_1 hm (by rw [h3]; decide)
    exact lv_astore_n hx hb hd h1 hL.has hn rfl (fun la' h' => kk la' (hL.store h'))
  · cases hk
theorem x_iinc {a : Nat} {v : Int32} {ls : ML} {x : Int32} {st : List Value} (hx : p.tables.exec = Jvm.exec) (hb : c.code = cc) (hL : m_L b sb nL ls la) (hv : ls[a]? = some (some (.inl x))) (hk : k_iinc cc pc nx a v = true)
    (kk : ∀ la' : Array Slot, m_L b sb nL (ls.set a (some (.inl (x + v)))) la' → W p l e R s m args below meth c H locs cells slots Q (F0 m nx la' st)) : W p l e R s m args below meth c H locs cells slots Q (F0 m pc la st) := by
  have hn : a < nL := by rw [← hL.2.1]; exact (List.getElem?_eq_some_iff.mp hv).1
  unfold k_iinc at hk
  split at hk
  · rename_i n z hd
    simp only [Bool.and_eq_true, decide_eq_true_eq] at hk
    obtain ⟨⟨h1, h3⟩, h2⟩ := hk
    subst h2; subst h1; subst h3
    obtain ⟨j, hj⟩ := List.getElem?_of_mem (m_prs_mem (b := b) (sb := sb).mpr ⟨.inl x, hv, rfl⟩ : (n, Value.int x) ∈ m_prs b sb ls)
    exact lv_iinc (v := x + Int32.ofInt z) hx hb hd hL.has hj rfl hn rfl (fun la' h' => kk la' (hL.store (v := .inl (x + Int32.ofInt z)) h'))
  · cases hk
theorem x_bin {w : Nat} {x y : Int32} {st : List Value} (hx : p.tables.exec = Jvm.exec) (hb : c.code = cc) (hk : k_bin cc pc nx w = true)
    (kk : W p l e R s m args below meth c H locs cells slots Q (F0 m nx la (.int (m_bin w x y) :: st))) : W p l e R s m args below meth c H locs cells slots Q (F0 m pc la (.int y :: .int x :: st)) := by
  unfold k_bin at hk
  simp only [Bool.and_eq_true, decide_eq_true_eq] at hk
  obtain ⟨h2, hk⟩ := hk
  subst h2
  split at hk
  · rename_i hd; rw [of_decide_eq_true hk] at kk; exact lv_iadd hx hb hd kk
  · rename_i hd; rw [of_decide_eq_true hk] at kk; exact lv_isub hx hb hd kk
  · rename_i hd; rw [of_decide_eq_true hk] at kk; exact lv_imul hx hb hd kk
  · rename_i hd; rw [of_decide_eq_true hk] at kk; exact lv_iand hx hb hd kk
  · rename_i hd; rw [of_decide_eq_true hk] at kk; exact lv_ior hx hb hd kk
  · rename_i hd; rw [of_decide_eq_true hk] at kk; exact lv_ixor hx hb hd kk
  · rename_i hd; rw [of_decide_eq_true hk] at kk; exact lv_ishl hx hb hd kk
  · rename_i hd; rw [of_decide_eq_true hk] at kk; exact lv_ishr hx hb hd kk
  · rename_i hd; rw [of_decide_eq_true hk] at kk; exact lv_iushr hx hb hd rfl kk
  · cases hk
theorem x_un {w : Nat} {x : Int32} {st : List Value} (hx : p.tables.exec = Jvm.exec) (hb : c.code = cc) (hk : k_un cc pc nx w = true)
    (kk : W p l e R s m args below meth c H locs cells slots Q (F0 m nx la (.int (m_un w x) :: st))) : W p l e R s m args below meth c H locs cells slots Q (F0 m pc la (.int x :: st)) := by
  unfold k_un at hk
  simp only [Bool.and_eq_true, decide_eq_true_eq] at hk
  obtain ⟨h2, hk⟩ := hk
  subst h2
  split at hk
  · rename_i hd; rw [of_decide_eq_true hk] at kk; exact lv_ineg hx hb hd kk
  · rename_i hd; rw [of_decide_eq_true hk] at kk; exact lv_i2b hx hb hd rfl kk
  · rename_i hd; rw [of_decide_eq_true hk] at kk; exact lv_i2s hx hb hd rfl kk
  · cases hk
theorem x_if {w tg : Nat} {x : Int32} {st : List Value} (hx : p.tables.exec = Jvm.exec) (hb : c.code = cc) (hk : k_if cc pc nx w tg = true)
    (kt : m_cnd w x 0 = true → W p l e R s m args below meth c H locs cells slots Q (F0 m tg la st)) (kf : ¬ m_cnd w x 0 = true → W p l e R s m args below meth c H locs cells slots Q (F0 m nx la st)) : W p l e R s m args below meth c H locs cells slots Q (F0 m pc la (.int x :: st)) := by
  unfold k_if at hk
  simp only [Bool.and_eq_true, decide_eq_true_eq] at hk
  obtain ⟨h2, hk⟩ := hk
  subst h2
  split at hk
  · rename_i o hd
    simp only [Bool.and_eq_true, decide_eq_true_eq] at hk
    rw [hk.1] at kt kf
    exact lv_if_eq hx hb hd hk.2 (fun q => kt (by simp [m_cnd, q])) (fun q => kf (by simp [m_cnd, q]))
  · rename_i o hd
    simp only [Bool.and_eq_true, decide_eq_true_eq] at hk
    rw [hk.1] at kt kf
    exact lv_if_ne hx hb hd hk.2 (fun q => kt (by simp [m_cnd, q])) (fun q => kf (by simp [m_cnd, q]))
  · rename_i o hd
    simp only [Bool.and_eq_true, decide_eq_true_eq] at hk
    rw [hk.1] at kt kf
    exact lv_if_lt hx hb hd hk.2 (fun q => kt (decide_eq_true q)) (fun q => kf (fun z => q (of_decide_eq_true z)))
  · rename_i o hd
    simp only [Bool.and_eq_true, decide_eq_true_eq] at hk
    rw [hk.1] at kt kf
    exact lv_if_ge hx hb hd hk.2 (fun q => kt (decide_eq_true q)) (fun q => kf (fun z => q (of_decide_eq_true z)))
  · rename_i o hd
    simp only [Bool.and_eq_true, decide_eq_true_eq] at hk
    rw [hk.1] at kt kf
    exact lv_if_gt hx hb hd hk.2 (fun q => kt (decide_eq_true q)) (fun q => kf (fun z => q (of_decide_eq_true z)))
  · rename_i o hd
    simp only [Bool.and_eq_true, decide_eq_true_eq] at hk
    rw [hk.1] at kt kf
    exact lv_if_le hx hb hd hk.2 (fun q => kt (decide_eq_true q)) (fun q => kf (fun z => q (of_decide_eq_true z)))
  · cases hk
theorem x_icmp {w tg : Nat} {x y : Int32} {st : List Value} (hx : p.tables.exec = Jvm.exec) (hb : c.code = cc) (hk : k_icmp cc pc nx w tg = true)
    (kt : m_cnd w x y = true → W p l e R s m args below meth c H locs cells slots Q (F0 m tg la st)) (kf : ¬ m_cnd w x y = true → W p l e R s m args below meth c H locs cells slots Q (F0 m nx la st)) : W p l e R s m args below meth c H locs cells slots Q (F0 m pc la (.int y :: .int x :: st)) := by
  unfold k_icmp at hk
  simp only [Bool.and_eq_true, decide_eq_true_eq] at hk
  obtain ⟨h2, hk⟩ := hk
  subst h2
  split at hk
  · rename_i o hd
    simp only [Bool.and_eq_true, decide_eq_true_eq] at hk
    rw [hk.1] at kt kf
    exact lv_icmp_eq hx hb hd hk.2 (fun q => kt (by simp [m_cnd, q])) (fun q => kf (by simp [m_cnd, q]))
  · rename_i o hd
    simp only [Bool.and_eq_true, decide_eq_true_eq] at hk
    rw [hk.1] at kt kf
    exact lv_icmp_ne hx hb hd hk.2 (fun q => kt (by simp [m_cnd, q])) (fun q => kf (by simp [m_cnd, q]))
  · rename_i o hd
    simp only [Bool.and_eq_true, decide_eq_true_eq] at hk
    rw [hk.1] at kt kf
    exact lv_icmp_lt hx hb hd hk.2 (fun q => kt (decide_eq_true q)) (fun q => kf (fun z => q (of_decide_eq_true z)))
  · rename_i o hd
    simp only [Bool.and_eq_true, decide_eq_true_eq] at hk
    rw [hk.1] at kt kf
    exact lv_icmp_ge hx hb hd hk.2 (fun q => kt (decide_eq_true q)) (fun q => kf (fun z => q (of_decide_eq_true z)))
  · rename_i o hd
    simp only [Bool.and_eq_true, decide_eq_true_eq] at hk
    rw [hk.1] at kt kf
    exact lv_icmp_gt hx hb hd hk.2 (fun q => kt (decide_eq_true q)) (fun q => kf (fun z => q (of_decide_eq_true z)))
  · rename_i o hd
    simp only [Bool.and_eq_true, decide_eq_true_eq] at hk
    rw [hk.1] at kt kf
    exact lv_icmp_le hx hb hd hk.2 (fun q => kt (decide_eq_true q)) (fun q => kf (fun z => q (of_decide_eq_true z)))
  · cases hk
theorem x_goto {tg : Nat} {st : List Value} (hx : p.tables.exec = Jvm.exec) (hb : c.code = cc) (hk : k_goto cc pc tg = true)
    (kk : W p l e R s m args below meth c H locs cells slots Q (F0 m tg la st)) : W p l e R s m args below meth c H locs cells slots Q (F0 m pc la st) := by
  unfold k_goto at hk
  split at hk
  · rename_i o hd; exact lv_goto hx hb hd (of_decide_eq_true hk) kk
  · cases hk
theorem x_switch {tg : Nat → Nat} {d : Nat} {lo : Int32} {ts : List Nat} {x : Int32} {st : List Value} (hx : p.tables.exec = Jvm.exec) (hb : c.code = cc) (hk : k_switch cc pc tg d lo ts = true)
    (kk : W p l e R s m args below meth c H locs cells slots Q (F0 m (tg (m_swt d lo ts x)) la st)) : W p l e R s m args below meth c H locs cells slots Q (F0 m pc la (.int x :: st)) := by
  unfold k_switch at hk
  split at hk
  · rename_i df lo' hi os n hd
    simp only [Bool.and_eq_true, decide_eq_true_eq] at hk
    obtain ⟨⟨⟨h1, h2⟩, h3⟩, h4⟩ := hk
    unfold m_swt at kk
    by_cases hl : x.toInt < lo.toInt
    · rw [if_pos hl] at kk
      exact lv_tableOut hx hb hd (Or.inl (by rw [h1]; exact hl)) h2 kk
    · rw [if_neg hl] at kk
      by_cases hj : (x.toInt - lo.toInt).toNat < ts.length
      · obtain ⟨t, ht⟩ : ∃ t, ts[(x.toInt - lo.toInt).toNat]? = some t := ⟨_, List.getElem?_eq_getElem hj⟩
        rw [List.getD_eq_getElem?_getD, ht] at kk
        have h5 : (os.toList.map (fun o => (pc : Int) + o))[(x.toInt - lo.toInt).toNat]? = some (tg t : Int) := by rw [h3, List.getElem?_map, ht]; rfl
        rw [List.getElem?_map, Array.getElem?_toList] at h5
        cases ho : os[(x.toInt - lo.toInt).toNat]? with
        | none => rw [ho] at h5; cases h5
        | some o =>
          rw [ho] at h5
          exact lv_tableIn hx hb hd (by rw [h1]; exact hl) (by omega) (by rw [h1]; exact ho) (Option.some.inj h5) kk
      · rw [List.getD_eq_getElem?_getD, List.getElem?_eq_none (by omega)] at kk
        exact lv_tableOut hx hb hd (Or.inr (by omega)) h2 kk
  · cases hk
theorem k_one_ok {bs : ByteArray} {i : Instr} (h : k_one bs pc nx i = true) : decode bs pc = .ok (i, 1) ∧ nx = pc + 1 := by
  unfold k_one at h
  simp only [Bool.and_eq_true, decide_eq_true_eq] at h
  exact ⟨h.2, h.1.symm⟩
end MR1
