def R_law : String := "LessonSpiralLaw"
def lw_P (b : Addr) (xs : List Int32) (args : Array Value) (s : State) : Prop := args = #[.ref b] ∧ s.IntsAt b xs ∧ xs.length ≤ 3072 ∧ (Jvm.Cond.and given_1 narrow_1).before args s = true
def lw_Q (_ : Array Value) (s : State) (o : Outcome) (t : State) : Prop := o = .returned (some (.int 1)) ∧ Framed s o t [] 600000 7302249
def lw_Z (below : List Frame) (a : Array Value) (s : State) : State → Prop := fun t => ∃ o, t.status = .running ∧ Ended t below o ∧ lw_Q a s o t
/-- the law's own end, with 1 on the stack, nothing written that was there before, its room as the claim has it -/
theorem lw_ret {p : Program} {l : Launch} {e : Env} {s : State} {m : MethodId} {below : List Frame} {meth : Method} {c : Code} {b : Nat} (hx : p.tables.exec = Jvm.exec) (hb : c.code = code) (hr : meth.sig.returnType = ret) (hlocks : meth.locks = false) {pc : Nat} {H : Heap} {ls : Array Slot} (hdg : decode code pc = .ok (.ireturn, 1)) : W p l e room_1 s m #[Value.ref b] below meth c H [] 600000 7302249 (lw_Z below #[Value.ref b] s) (F0 m pc ls [.int 1]) := by
  intro T hT X
  obtain ⟨fs, hret, hrun, hended, hW, hframe⟩ := X.leave (v := some (.int 1)) (hlocks := hlocks) (fun h => by rw [hr] at h; cases h)
  have hmeth' : T.vm.method? m = some meth := X.method'
  refine ⟨T.setFrames fs, ?_, .returned (some (.int 1)), hrun, hended, rfl, ⟨_, rfl⟩, hW, hframe⟩
  jvm_step X.here [X.here.top, hx, hb, hdg, hmeth', hr, ret, narrow_b1]
  (try refine ⟨rfl, ?_⟩); (try refine ⟨rfl, ?_⟩)
  first | (intro acts; rw [hret _ acts rfl rfl rfl]) | rw [hret _ _ rfl rfl rfl]
  exact Steps.refl _
/-- what holds at the law's entry: the machine, the code, the tables' words (any of lw_tbl by 'hts w (by decide +kernel)'), the script of L ints xs at the cell b, what the Statement gives of the start (any of its parts by flat_of_before) -/
def lw_At (p : Program) (s : State) (m : MethodId) (meth : Method) (c : Code) (b L : Nat) (xs : Nat → Int32) : Prop :=
  p.tables.exec = Jvm.exec ∧ c.code = code ∧ meth.sig.returnType = ret ∧ c.maxLocals = 4 ∧ s.vm.findClass R_law = some m.cls ∧ (∀ w ∈ lw_tbl, w.before #[Value.ref b] s = true) ∧ va_X b L xs s s.heap ∧ b < s.heap.size ∧ meth.locks = false ∧ (Jvm.Cond.and given_1 narrow_1).before #[Value.ref b] s = true ∧ meth.name = "law"
def law_ok : Prop := ∀ (L : Nat) (xs : Nat → Int32), L ≤ 3072 → Ev (L, xs) 31 0 10 [some (.inr (some m_scr)), some (.inr (some 0)), some (.inr (some 60)), some (.inl 0)] [] σ0 (fun rv _ => rv = [.inl 1])
theorem s_new_at {ci k n : Nat} {ls : ML} {st : List MV} {h : MH} (hl : h.length = n) (hn : n < m_scr) : s_new ci k ls st h = .inl (.inl (k + 1, ls, .inr (some n) :: st, h ++ [.inl (ci, m_def.getD ci [])])) := by
  subst hl
  unfold s_new
  rw [if_pos hn]
  rfl
theorem s_call_at {y n ci a : Nat} {st As rest : List MV} {h : MH} {fs : List MV} (hA : (st.take n).reverse = .inr (some a) :: As) (hc : m_cell h a = some (.inl (ci, fs))) (hn : n ≤ st.length) (hr : st.drop n = rest) (h8 : rest.length ≤ 8) : s_call y n ci st h = .inl (.inr (y, .inr (some a) :: As, rest)) := by
  subst hr
  unfold s_call
  rw [hA]
  dsimp only
  rw [hc]
  dsimp only
  rw [if_pos ⟨rfl, hn, h8⟩]
theorem q_0' : m_code 0 = mc_0 := rfl
theorem m_h60_len : m_h60.length = 60 := by decide +kernel
theorem m_ret_LS : m_ret 74 46 [] = some [] := by decide +kernel
theorem m_ret_M : m_ret 117 57 [] = some [] := by decide +kernel
theorem law_in {S : Nat × (Nat → Int32)} {n : Nat} (hn : 2000 ≤ n) : bodyN S (n + 10) 31 0 0 [some (.inr (some m_scr)), none, none, none] [] [] = bodyN S n 31 0 10 [some (.inr (some m_scr)), some (.inr (some 0)), some (.inr (some 60)), some (.inl 0)] [] (hp σ0) := by
  have hLS : ∀ N, 2000 ≤ N → bodyN S N 30 74 0 (m_ent 74 [.inr (some 0)]) [] [.inl (6, m_def.getD 6 [])] = some (46, [], m_h60) := fun N hN => bodyN_le hN (bodyN_S _ _ _ _ _ _ _ _ (by decide) (by decide) (m_eqR_ok z_LS0))
  have hM : ∀ N, 2000 ≤ N → bodyN S N 30 117 0 (m_ent 117 [.inr (some 60)]) [] (m_h60 ++ [.inl (7, m_def.getD 7 [])]) = some (57, [], hp σ0) := fun N hN => bodyN_le hN (bodyN_S _ _ _ _ _ _ _ _ (by decide) (by decide) (m_eqR_ok z_M0))
  have hc60 : m_cell (m_h60 ++ [.inl (7, m_def.getD 7 [])]) 60 = some (.inl (7, m_def.getD 7 [])) := by
    unfold m_cell
    rw [if_neg (by decide), List.getElem?_append_right (by rw [m_h60_len]; decide), m_h60_len]
    rfl
  refine (b_next (i := (20, 6, 0, 0, [])) q_0' rfl (s_new_at (k := 0) (st := []) (n := 0) rfl (by decide))).trans ?_
  refine (b_next (i := (6, 0, 0, 0, [])) q_0' rfl rfl).trans ?_
  refine (b_call (i := (30, 74, 1, 0, [6])) q_0' rfl (s_call_at rfl rfl (Nat.le_of_ble_eq_true rfl) rfl (Nat.le_of_ble_eq_true rfl)) (hLS _ (by omega)) m_ret_LS).trans ?_
  refine (b_next (i := (2, 1, 0, 1, [])) q_0' rfl rfl).trans ?_
  refine (b_next (i := (20, 7, 0, 0, [])) q_0' rfl (s_new_at (n := 60) m_h60_len (by decide))).trans ?_
  refine (b_next (i := (6, 0, 0, 0, [])) q_0' rfl rfl).trans ?_
  refine (b_call (i := (30, 117, 1, 0, [7])) q_0' rfl (s_call_at rfl hc60 (Nat.le_of_ble_eq_true rfl) rfl (Nat.le_of_ble_eq_true rfl)) (hM _ (by omega)) m_ret_M).trans ?_
  refine (b_next (i := (2, 2, 0, 1, [])) q_0' rfl rfl).trans ?_
  refine (b_next (i := (0, 0, 0, 0, [])) q_0' rfl rfl).trans ?_
  exact b_next (i := (2, 3, 0, 0, [])) q_0' rfl rfl
def m_ssz (e : Shp) : Nat := match e with
  | .inl o => o.2.length
  | .inr (.inl n) => n
  | .inr (.inr q) => q.2.length
theorem hp_sz (σ : Mem) : m_hsz (hp σ) = (m_sh.map m_ssz).sum := by
  refine congrArg List.sum (?_ : (m_sh.mapIdx (m_cv σ)).map m_csz = m_sh.map m_ssz)
  apply List.ext_getElem?
  intro k
  rw [List.getElem?_map, List.getElem?_map, List.getElem?_mapIdx]
  cases m_sh[k]? with
  | none => rfl
  | some e =>
    rcases e with o | n | q
    · simp [m_cv, m_csz, m_ssz, m_fv]
    · simp [m_cv, m_csz, m_ssz]
    · simp [m_cv, m_csz, m_ssz]
theorem m_shsz : (m_sh.map m_ssz).sum ≤ 10000 := by decide +kernel
theorem m_inst : ((List.range 8).all fun ci => decide (Cond.instantiable (m_C ci).1 (m_C ci).2.2 ∈ lw_tbl)) = true := by decide +kernel
theorem m_over_in : Cond.arrayClass .int ∈ lw_tbl ∧ Cond.arrayOver (.object "LessonSpiral$Sheet") ∈ lw_tbl ∧ Cond.arrayOver (.object "LessonSpiral$Place") ∈ lw_tbl ∧ Cond.arrayOver (.array .int) ∈ lw_tbl := by decide +kernel
theorem m_St_of {s : State} {args : Array Value} (hts : ∀ w ∈ lw_tbl, w.before args s = true) : ∃ (D : va_G) (tc : Nat → ClassId), m_St D tc s := by
  have hT : ∀ w ∈ lw_tbl, goodWord w = true → w.before args s = true := fun w hw _ => hts w hw
  have h : ∀ ci : Nat, ∃ q : ClassId × (Nat → Nat), ci < 8 → u_Kn s (m_C ci).1 (m_C ci).2.1 (m_C ci).2.2 q.1 q.2 := fun ci => by
    by_cases hc : ci < 8
    · have h1 := of_decide_eq_true (List.all_eq_true.mp m_inst ci (List.mem_range.mpr hc))
      obtain ⟨cC, iS, hK⟩ := u_known (m_hts hT) (m_uws hc) (hts _ h1)
      exact ⟨(cC, iS), fun _ => hK⟩
    · exact ⟨(0, fun _ => 0), fun z => absurd z hc⟩
  obtain ⟨c0, k0, comp0, f0, g0, e0⟩ := Cond.arrayClass_spec (hts _ m_over_in.1)
  obtain ⟨comp1, c1, k1, a1, -, g1, e1, f1⟩ := Cond.arrayOver_spec (hts _ m_over_in.2.1)
  obtain ⟨comp2, c2, k2, a2, -, g2, e2, f2⟩ := Cond.arrayOver_spec (hts _ m_over_in.2.2.1)
  obtain ⟨comp3, c3, k3, a3, -, g3, e3, f3⟩ := arrayOverA_spec (hts _ m_over_in.2.2.2)
  refine ⟨(fun ci => (Classical.choose (h ci)).1, fun ci => (Classical.choose (h ci)).2), fun k => match k with | 0 => c0 | 1 => c1 | 2 => c2 | _ => c3, ⟨fun c q hq => ?_, fun k q hk => ?_⟩, fun w hw hn => ?_, fun t ht => hts _ ht⟩
  · have hc : c < 8 := (List.getElem?_eq_some_iff.mp hq).1
    rw [m_cl_get hc] at hq
    cases hq
    exact Classical.choose_spec (h c) hc
  · match k, hk with
    | 0, hk => cases hk; exact ⟨fun n z => ⟨fun k h => (by cases h), k0, g0, comp0, e0⟩, f0⟩
    | 1, hk => cases hk; exact ⟨fun n z => ⟨fun k h => (by cases h), k1, g1, comp1, e1⟩, k1, comp1, g1, e1, a1, f1⟩
    | 2, hk => cases hk; exact ⟨fun n z => ⟨fun k h => (by cases h), k2, g2, comp2, e2⟩, k2, comp2, g2, e2, a2, f2⟩
    | 3, hk => cases hk; exact ⟨fun n z => ⟨fun k h => (by cases h), k3, g3, comp3, e3⟩, f3⟩
    | k + 4, hk => simp [m_tys] at hk
  · have h1 := hts w hw
    unfold m_nest at hn
    split at hn
    · exact va_Nw.of rfl h1
    · exact va_Nw.of rfl h1
    · cases hn
theorem ret_dec {y kR a b' : Nat} {v : Int32} {ts : List Nat} (hy : y < 176) (hi : (m_code y)[kR]? = some (27, a, b', v, ts)) : decode (m_bs y) (m_pc y kR) = .ok (.ireturn, 1) := by
  have hck := m_ck_at hy hi
  exact of_decide_eq_true hck
theorem start_of (hlaw : law_ok) {p : Program} {e : Env} {s : State} {m : MethodId} {below : List Frame} {meth : Method} {c : Code} (l : Launch) {b L : Nat} {xs : Nat → Int32} (hL : L ≤ 3072) (C0 : lw_At p s m meth c b L xs) : W p l e room_1 s m #[Value.ref b] below meth c s.heap [] 0 0 (lw_Z below #[Value.ref b] s) (entryFrame m ([Value.ref b] : List Value).toArray 4) := by
  obtain ⟨hx, hb, hr, hml, hown, hts, hX, hbl, hlocks, hgv, hnm⟩ := id C0
  obtain ⟨D, tc, hSt⟩ := m_St_of hts
  obtain ⟨n, kR, stR, σ', rv, h1, h2, h3⟩ := hlaw L xs hL
  have hrun : bodyN (L, xs) (max n 2000 + 10) 31 0 0 [some (.inr (some m_scr)), none, none, none] [] [] = some (kR, stR, hp σ') := (law_in (Nat.le_max_right n 2000)).trans (bodyN_le (Nat.le_max_left n 2000) h1)
  obtain ⟨-, hB⟩ := body_ok l (D := D) (tc := tc) hbl _ _ _ _ _ _ _ _ _ _ (by decide) hrun
  obtain ⟨la, hla, hLL⟩ := m_L.entry (b := s.heap.size) (sb := b) (nL := 4) [.inr (some m_scr)] (by decide)
  have hla2 : entryFrame m ([Value.ref b] : List Value).toArray 4 = F0 m 0 la [] := hla m
  rw [hla2]
  refine W.eq (g2 := F0 m (m_pc 0 0) la []) rfl ?_
  have hlen : (hp σ').length = 70 := by
    unfold hp
    rw [List.length_mapIdx]
    exact m_sh_len
  have hsz : m_hsz (hp σ') ≤ 10000 := by
    rw [hp_sz]
    exact m_shsz
  have C : m_At p room_1 s m #[Value.ref b] meth c (L, xs) D tc s.heap.size b 0 31 := ⟨hx, hb, hml, hown, fun w hw _ => hts w hw, hnm, hSt, ⟨hX, hbl, Nat.le_refl _⟩, ⟨by decide, by decide⟩⟩
  refine hB p e room_1 s m #[Value.ref b] below meth c s.heap [] 0 0 _ la C ⟨rfl, fun k x hx => by simp at hx⟩ va_S.rf hLL ?_ ?_ ?_
  · show 0 + (hp σ').length ≤ 600000 + 0
    omega
  · show 0 + m_hsz (hp σ') ≤ 7302249 + 0
    omega
  · intro H1 locs1 la1 cells1 slots1 hP1 hF1 hc1 hs1
    have hc1' : cells1 + 0 = 0 + (hp σ').length := hc1
    have hs1' : slots1 + 0 = 0 + m_hsz (hp σ') := hs1
    subst h3
    have hi : ∃ i : MI, (m_code 0)[kR]? = some i ∧ i.1 = 27 ∧ stR = [.inl 1] := by
      unfold m_ret at h2
      split at h2
      · rename_i i hi
        split at h2
        · rename_i hk
          exact absurd hk (by decide +kernel)
        · rename_i h27 _
          split at h2
          · cases h2
            exact ⟨i, hi, h27, rfl⟩
          · cases h2
        · cases h2
        · cases h2
      · cases h2
    obtain ⟨⟨op, a, b', v, ts⟩, hi, h27, hst⟩ := hi
    dsimp only at h27
    subst h27
    subst hst
    have hd0 : decode (m_bs 0) (m_pc 0 kR) = .ok (.ireturn, 1) := ret_dec (by decide) hi
    have hbs : m_bs 0 = code := rfl
    have hd : decode code (m_pc 0 kR) = .ok (.ireturn, 1) := by rw [← hbs]; exact hd0
    refine va_forget (fun q hq => hF1.2.2 q hq) ?_
    refine W.widen (k := 600000) (n := 7302249) (by omega) (by omega) ?_
    exact lw_ret hx hb hr hlocks hd
