section MS3
variable {p : Program} {l : Launch} {e : Env} {R : Room} {s : State} {m : MethodId} {args : Array Value} {below : List Frame} {meth : Method} {c : Code} {H : Heap} {locs : List Loc} {cells slots : Nat} {Q : State → Prop}
variable {la : Array Slot} {b sb y d k : Nat} {D : va_G} {tc : Nat → ClassId} {h : MH} {st : List MV} {ls : ML} {S : Nat × (Nat → Int32)}
/-- what a call that is met gives -/
theorem c_virt {w y' n ci : Nat} {As rest rv : List MV} {h1 : MH} (C : m_At p R s m args meth c S D tc b sb y (d + 1)) (hP : m_P D tc b sb h H) (hF : va_S (fun x => b ≤ x) s.heap H locs) (hL : m_L b sb (m_mL y) ls la) (hst : s_call y' n ci st h = .inl (.inr (y', As, rest)))
    (hk : k_call (m_y y).cls (m_bs y) (m_pc y k) (m_pc y (k + 1)) w y' n ci = true) (hmono : h.length ≤ h1.length ∧ m_hsz h ≤ m_hsz h1) (hc : cells + h1.length ≤ R.cells + h.length) (hs : slots + m_hsz h1 ≤ R.slots + m_hsz h)
    (hM : k_meth y' n 2 ci = true → As.length = n → Met l (m_y y') (m_ws y') (m_rm d h h1) (m_Pc D tc b sb S As h) (m_Qc D tc b sb rv h1) (h1.length - h.length) (m_hsz h1 - m_hsz h) (fun q => b ≤ q))
    (kk : ∀ (H1 : Heap) (locs1 : List Loc), m_P D tc b sb h1 H1 → va_S (fun q => b ≤ q) s.heap H1 locs1 → W p l e R s m args below meth c H1 locs1 (cells + (h1.length - h.length)) (slots + (m_hsz h1 - m_hsz h)) Q (F0 m (m_pc y (k + 1)) la ((rv ++ rest).map (m_v b sb)))) : W p l e R s m args below meth c H locs cells slots Q (F0 m (m_pc y k) la (st.map (m_v b sb))) := by
  obtain ⟨hx, hb, hml, hown, hT, hnm, hS, hX, hR⟩ := C
  unfold k_call at hk
  simp only [Bool.and_eq_true, decide_eq_true_eq] at hk
  obtain ⟨⟨h3, hmeth⟩, hk⟩ := hk
  obtain ⟨hy, hcode, hini, hmh, hpl, hmL, hn, hrk, hrest⟩ := k_meth_ok hmeth
  simp only [Bool.and_eq_true, decide_eq_true_eq, if_neg (show ¬ (2 : Nat) = 0 by decide), if_neg (show ¬ (2 : Nat) = 1 by decide)] at hrest
  obtain ⟨⟨⟨⟨⟨w1, hci⟩, hcn⟩, hn0⟩, hpd⟩, w3⟩ := hrest
  unfold s_call at hst
  split at hst
  · rename_i a As' hrev
    split at hst
    · rename_i ci' fs ha
      split at hst
      · rename_i hcc
        obtain ⟨rfl, hlen, hr8⟩ := hcc
        have hq := Sum.inr.inj (Sum.inl.inj hst)
        obtain ⟨-, hq2⟩ := Prod.mk.inj hq
        obtain ⟨hAs, hre⟩ := Prod.mk.inj hq2
        subst hAs
        subst hre
        obtain ⟨hne, hg⟩ := m_cell_some ha
        have hAl : (Sum.inr (some a) :: As' : List MV).length = n := by rw [← hrev, List.length_reverse, List.length_take]; omega
        have hstk : st = (Sum.inr (some a) :: As' : List MV).reverse ++ st.drop n := by rw [← hrev, List.reverse_reverse, List.take_append_drop]
        split at hk
        · rename_i z hd
          have hts := m_hts hT
          have cw : CallW R s args (m_y y).cls (m_y y').cls z (m_y y') (m_bs y') (m_mL y') (m_rt y') (m_ws y') (m_rm d h h1) (h1.length - h.length) (m_hsz h1 - m_hsz h) (n - 1) :=
            ⟨callB_of (n - 1) hts (m_goodTB hcode) rfl rfl rfl (hT _ (m_in_ok hini).1 (m_in_ok hini).2) (hT _ (m_in_ok hk).1 (m_in_ok hk).2) ⟨hmh.1, hmh.2, hpd⟩ ⟨by show d + 1 ≤ R.frames; omega, by show 8 + (m_mL y' + 11) + 64 * d ≤ R.locals; omega⟩, hT _ (m_in_ok w1).1 (m_in_ok w1).2, hT _ (m_in_ok w3).1 (m_in_ok w3).2⟩
          have hrecv := va_recv hS.1 (hP.one hg) (m_cl_get hci) (q0 := 0) rfl
          rw [hcn] at hrecv
          have hpre : PreV s H (m_y y').cls (m_ad b sb a) (m_Pc D tc b sb S (Sum.inr (some a) :: As') h) (As'.map (m_v b sb)) := ⟨m_blind, by rw [m_ad_ne hne]; exact hrecv, fun U hU hW => ⟨rfl, by rw [hU]; exact hP, hS.warm hW, by
            rw [hU]
            refine va_X.moved hW.alike (hX.1.kept ?_)
            exact hF.2.1 sb (Nat.lt_of_lt_of_le hX.2.1 hX.2.2) (by show ¬ b ≤ sb; omega)⟩⟩
          have run := va_runV (H := H) (locs := locs) (cells := cells) (slots := slots) (e := e) (below := below) (meth := meth) (g := F0 m (m_pc y k) la (st.map (m_v b sb))) (As := As'.map (m_v b sb)) (rest := (st.drop n).map (m_v b sb)) ⟨hx, hb, hml, hown, hts⟩ (hM hmeth hAl) cw hpre rfl (by rw [List.length_map]; simp only [List.length_cons] at hAl; omega) (by rw [← hL.1]) (by
            show st.map (m_v b sb) = _
            generalize st.drop n = dr at hstk ⊢
            rw [hstk]
            simp only [List.reverse_cons, List.map_append, List.map_reverse, List.append_assoc]
            rfl) (lv_room (by rw [m_sum]; exact hr8)) hd ⟨by omega, by omega⟩
          refine x_called run hF (fun H1 locs1 hP1 hF1 => ?_)
          have key := kk H1 locs1 hP1 hF1
          rw [← h3, List.map_append] at key
          exact key
        · cases hk
      · exact (m_bad_ne hst).elim
    · exact (m_bad_ne hst).elim
  · exact (m_bad_ne hst).elim
theorem c_spec {w y' n ci : Nat} {As rest rv : List MV} {h1 : MH} (C : m_At p R s m args meth c S D tc b sb y (d + 1)) (hP : m_P D tc b sb h H) (hF : va_S (fun x => b ≤ x) s.heap H locs) (hL : m_L b sb (m_mL y) ls la) (hst : s_call y' n ci st h = .inl (.inr (y', As, rest)))
    (hk : k_spec (m_y y).cls (m_bs y) (m_pc y k) (m_pc y (k + 1)) w y' n ci = true) (hmono : h.length ≤ h1.length ∧ m_hsz h ≤ m_hsz h1) (hc : cells + h1.length ≤ R.cells + h.length) (hs : slots + m_hsz h1 ≤ R.slots + m_hsz h)
    (hM : k_meth y' n 1 ci = true → As.length = n → Met l (m_y y') (m_ws y') (m_rm d h h1) (m_Pc D tc b sb S As h) (m_Qc D tc b sb rv h1) (h1.length - h.length) (m_hsz h1 - m_hsz h) (fun q => b ≤ q))
    (kk : ∀ (H1 : Heap) (locs1 : List Loc), m_P D tc b sb h1 H1 → va_S (fun q => b ≤ q) s.heap H1 locs1 → W p l e R s m args below meth c H1 locs1 (cells + (h1.length - h.length)) (slots + (m_hsz h1 - m_hsz h)) Q (F0 m (m_pc y (k + 1)) la ((rv ++ rest).map (m_v b sb)))) : W p l e R s m args below meth c H locs cells slots Q (F0 m (m_pc y k) la (st.map (m_v b sb))) := by
  obtain ⟨hx, hb, hml, hown, hT, hnm, hS, hX, hR⟩ := C
  unfold k_spec at hk
  simp only [Bool.and_eq_true, decide_eq_true_eq] at hk
  obtain ⟨⟨h3, hmeth⟩, hk⟩ := hk
  obtain ⟨hy, hcode, hini, hmh, hpl, hmL, hn, hrk, hrest⟩ := k_meth_ok hmeth
  simp only [Bool.and_eq_true, decide_eq_true_eq, if_neg (show ¬ (1 : Nat) = 0 by decide), if_true] at hrest
  obtain ⟨⟨⟨⟨⟨w1, hci⟩, hcn⟩, hn0⟩, hpd⟩, w3⟩ := hrest
  unfold s_call at hst
  split at hst
  · rename_i a As' hrev
    split at hst
    · rename_i ci' fs ha
      split at hst
      · rename_i hcc
        obtain ⟨rfl, hlen, hr8⟩ := hcc
        have hq := Sum.inr.inj (Sum.inl.inj hst)
        obtain ⟨-, hq2⟩ := Prod.mk.inj hq
        obtain ⟨hAs, hre⟩ := Prod.mk.inj hq2
        subst hAs
        subst hre
        obtain ⟨hne, hg⟩ := m_cell_some ha
        have hAl : (Sum.inr (some a) :: As' : List MV).length = n := by rw [← hrev, List.length_reverse, List.length_take]; omega
        have hstk : st = (Sum.inr (some a) :: As' : List MV).reverse ++ st.drop n := by rw [← hrev, List.reverse_reverse, List.take_append_drop]
        split at hk
        · rename_i z hd
          have hts := m_hts hT
          have hrt : m_rt y' = none := by unfold m_rt; rw [w3.2]; rfl
          have cw : CallB R s args (m_y y).cls z (m_y y') (m_bs y') (m_mL y') none (m_ws y') (m_rm d h h1) (h1.length - h.length) (m_hsz h1 - m_hsz h) (n - 1) ∧ (m_y y').name = "<init>" ∧ (Cond.instanceMethod (m_y y')).before args s = true :=
            ⟨callB_of (n - 1) hts (m_goodTB hcode) (by unfold m_ws; rw [hrt]) rfl rfl (hT _ (m_in_ok hini).1 (m_in_ok hini).2) (hT _ (m_in_ok hk).1 (m_in_ok hk).2) ⟨hmh.1, hmh.2, hpd⟩ ⟨by show d + 1 ≤ R.frames; omega, by show 8 + (m_mL y' + 11) + 64 * d ≤ R.locals; omega⟩, w3.1, hT _ (m_in_ok w1).1 (m_in_ok w1).2⟩
          have hpre : PreS s H (m_Pc D tc b sb S (Sum.inr (some a) :: As') h) (.ref (m_ad b sb a) :: As'.map (m_v b sb)) := ⟨m_blind, fun U hU hW => ⟨rfl, by rw [hU]; exact hP, hS.warm hW, by
            rw [hU]
            refine va_X.moved hW.alike (hX.1.kept ?_)
            exact hF.2.1 sb (Nat.lt_of_lt_of_le hX.2.1 hX.2.2) (by show ¬ b ≤ sb; omega)⟩⟩
          have run := va_runI (H := H) (locs := locs) (cells := cells) (slots := slots) (e := e) (below := below) (meth := meth) (g := F0 m (m_pc y k) la (st.map (m_v b sb))) (As := As'.map (m_v b sb)) (rest := (st.drop n).map (m_v b sb)) ⟨hx, hb, hml, hown, hts⟩ (hM hmeth hAl) cw hpre rfl (by rw [List.length_map]; simp only [List.length_cons] at hAl; omega) (by rw [← hL.1]) (by
            show st.map (m_v b sb) = _
            generalize st.drop n = dr at hstk ⊢
            rw [hstk]
            simp only [List.reverse_cons, List.map_append, List.map_reverse, List.append_assoc]
            rfl) (lv_room (by rw [m_sum]; exact hr8)) hd ⟨by omega, by omega⟩
          refine x_called run hF (fun H1 locs1 hP1 hF1 => ?_)
          have key := kk H1 locs1 hP1 hF1
          rw [← h3, List.map_append] at key
          exact key
        · cases hk
      · exact (m_bad_ne hst).elim
    · exact (m_bad_ne hst).elim
  · exact (m_bad_ne hst).elim
theorem c_stat {w fl y' n : Nat} {As rest rv : List MV} {h1 : MH} (C : m_At p R s m args meth c S D tc b sb y (d + 1)) (hP : m_P D tc b sb h H) (hF : va_S (fun x => b ≤ x) s.heap H locs) (hL : m_L b sb (m_mL y) ls la) (hst : s_calls y' n st = .inl (.inr (y', As, rest)))
    (hk : k_stat (m_y y).cls (m_bs y) (m_pc y k) (m_pc y (k + 1)) w fl y' n = true) (hmono : h.length ≤ h1.length ∧ m_hsz h ≤ m_hsz h1) (hc : cells + h1.length ≤ R.cells + h.length) (hs : slots + m_hsz h1 ≤ R.slots + m_hsz h)
    (hM : k_meth y' n 0 0 = true → As.length = n → Met l (m_y y') (m_ws y') (m_rm d h h1) (m_Pc D tc b sb S As h) (m_Qc D tc b sb rv h1) (h1.length - h.length) (m_hsz h1 - m_hsz h) (fun q => b ≤ q))
    (kk : ∀ (H1 : Heap) (locs1 : List Loc), m_P D tc b sb h1 H1 → va_S (fun q => b ≤ q) s.heap H1 locs1 → W p l e R s m args below meth c H1 locs1 (cells + (h1.length - h.length)) (slots + (m_hsz h1 - m_hsz h)) Q (F0 m (m_pc y (k + 1)) la ((rv ++ rest).map (m_v b sb)))) : W p l e R s m args below meth c H locs cells slots Q (F0 m (m_pc y k) la (st.map (m_v b sb))) := by
  obtain ⟨hx, hb, hml, hown, hT, hnm, hS, hX, hR⟩ := C
  unfold k_stat at hk
  simp only [Bool.and_eq_true, decide_eq_true_eq] at hk
  obtain ⟨⟨h3, hmeth⟩, hk⟩ := hk
  obtain ⟨hy, hcode, hini, hmh, hpl, hmL, hn, hrk, hrest⟩ := k_meth_ok hmeth
  simp only [Bool.and_eq_true, decide_eq_true_eq, if_true] at hrest
  obtain ⟨w1, hpd⟩ := hrest
  unfold s_calls at hst
  split at hst
  · rename_i hcc
    obtain ⟨hlen, hr8⟩ := hcc
    have hq := Sum.inr.inj (Sum.inl.inj hst)
    obtain ⟨-, hq2⟩ := Prod.mk.inj hq
    obtain ⟨hAs, hre⟩ := Prod.mk.inj hq2
    subst hAs
    subst hre
    have hAl : ((st.take n).reverse).length = n := by rw [List.length_reverse, List.length_take]; omega
    have hstk : st.map (m_v b sb) = (((st.take n).reverse).map (m_v b sb)).reverse ++ (st.drop n).map (m_v b sb) := by rw [List.map_reverse, List.reverse_reverse, ← List.map_append, List.take_append_drop]
    have hts := m_hts hT
    have hpre : PreS s H (m_Pc D tc b sb S ((st.take n).reverse) h) (((st.take n).reverse).map (m_v b sb)) := ⟨m_blind, fun U hU hW => ⟨rfl, by rw [hU]; exact hP, hS.warm hW, by
      rw [hU]
      refine va_X.moved hW.alike (hX.1.kept ?_)
      exact hF.2.1 sb (Nat.lt_of_lt_of_le hX.2.1 hX.2.2) (by show ¬ b ≤ sb; omega)⟩⟩
    split at hk
    · rename_i z hd
      have run : va_Run p l e R s m args below meth c H locs cells slots (h1.length - h.length) (m_hsz h1 - m_hsz h) (F0 m (m_pc y k) la (st.map (m_v b sb))) ((st.drop n).map (m_v b sb)) (m_Qc D tc b sb rv h1 (((st.take n).reverse).map (m_v b sb)).toArray) (fun q => b ≤ q) := by
        split at hk
        · exact va_runS (H := H) (locs := locs) (cells := cells) (slots := slots) (e := e) (below := below) (meth := meth) (g := F0 m (m_pc y k) la (st.map (m_v b sb))) (rest := (st.drop n).map (m_v b sb)) ⟨hx, hb, hml, hown, hts⟩ (hM hmeth hAl) ⟨callB_of n hts (m_goodTB hcode) rfl rfl rfl (hT _ (m_in_ok hini).1 (m_in_ok hini).2) (hT _ (m_in_ok hk).1 (m_in_ok hk).2) ⟨hmh.1, hmh.2, hpd⟩ ⟨by show d + 1 ≤ R.frames; omega, by show 8 + (m_mL y' + 11) + 64 * d ≤ R.locals; omega⟩, hT _ (m_in_ok w1).1 (m_in_ok w1).2⟩ hpre rfl (by rw [List.length_map]; exact hAl) (by rw [← hL.1]) hstk (lv_room (by rw [m_sum]; exact hr8)) hd ⟨by omega, by omega⟩
        · exact va_runSN (H := H) (locs := locs) (cells := cells) (slots := slots) (e := e) (below := below) (meth := meth) (g := F0 m (m_pc y k) la (st.map (m_v b sb))) (rest := (st.drop n).map (m_v b sb)) ⟨hx, hb, hml, hown, hts⟩ (hM hmeth hAl) ⟨va_cnB n hts (m_goodTB hcode) rfl rfl rfl (hS.2.1 _ (m_inN_ok hk).1 (m_inN_ok hk).2) (hT _ (m_in_ok hini).1 (m_in_ok hini).2) ⟨hmh.1, hmh.2, hpd⟩ ⟨by show d + 1 ≤ R.frames; omega, by show 8 + (m_mL y' + 11) + 64 * d ≤ R.locals; omega⟩, hT _ (m_in_ok w1).1 (m_in_ok w1).2, trivial⟩ hpre rfl (by rw [List.length_map]; exact hAl) (by rw [← hL.1]) hstk (lv_room (by rw [m_sum]; exact hr8)) hd ⟨by omega, by omega⟩
      refine x_called run hF (fun H1 locs1 hP1 hF1 => ?_)
      have key := kk H1 locs1 hP1 hF1
      rw [← h3, List.map_append] at key
      exact key
    · cases hk
  · exact (m_bad_ne hst).elim
end MS3
