/-! one step; a call; a body -/
section MS1
variable {p : Program} {l : Launch} {e : Env} {R : Room} {s : State} {m : MethodId} {args : Array Value} {below : List Frame} {meth : Method} {c : Code} {H : Heap} {locs : List Loc} {cells slots : Nat} {Q : State → Prop}
variable {la : Array Slot} {b sb y d k : Nat} {D : va_G} {tc : Nat → ClassId} {h : MH} {st : List MV} {ls : ML} {S : Nat × (Nat → Int32)} {q : MS}
theorem s_call_next {y n ci : Nat} (e : s_call y n ci st h = .inl (.inl q)) : False := by
  unfold s_call at e
  split at e
  · split at e
    · split at e
      · cases e
      · exact m_bad_ne e
    · exact m_bad_ne e
  · exact m_bad_ne e
theorem s_calls_next {y n : Nat} (e : s_calls y n st = .inl (.inl q)) : False := by
  unfold s_calls at e
  split at e
  · cases e
  · exact m_bad_ne e
theorem stp_ok (C : m_At p R s m args meth c S D tc b sb y d) (hP : m_P D tc b sb h H) (hF : va_S (fun x => b ≤ x) s.heap H locs) (hL : m_L b sb (m_mL y) ls la) (hc : cells + q.2.2.2.length ≤ R.cells + h.length) (hs : slots + m_hsz q.2.2.2 ≤ R.slots + m_hsz h) (kk : m_K p l e R s m args below meth c Q D tc b sb y h cells slots q) :
    ∀ (i : MI) (ws : List Nat), stp S d i k ls st h = .inl (.inl q) → m_dk (m_y y).cls (m_y y).name (m_bs y) (m_pc y k) (m_pc y (k + 1)) (m_pc y) ws i = true → W p l e R s m args below meth c H locs cells slots Q (F0 m (m_pc y k) la (st.map (m_v b sb)))
  | (0, _, _, _, _), _, hst, hk => o_push C hP hF hL kk hst hk
  | (1, _, _, _, _), _, hst, hk => o_load C hP hF hL kk hst hk
  | (2, _, _, _, _), _, hst, hk => o_store C hP hF hL kk hst hk
  | (3, _, _, _, _), _, hst, hk => o_iinc C hP hF hL kk hst hk
  | (4, _, _, _, _), _, hst, hk => o_bin C hP hF hL kk hst hk
  | (5, _, _, _, _), _, hst, hk => o_un C hP hF hL kk hst hk
  | (6, _, _, _, _), _, hst, hk => o_dup C hP hF hL kk hst hk
  | (7, _, _, _, _), _, hst, hk => o_dup2 C hP hF hL kk hst hk
  | (8, _, _, _, _), _, hst, hk => o_pop C hP hF hL kk hst hk
  | (9, _, _, _, _), _, hst, hk => o_if C hP hF hL kk hst hk
  | (10, _, _, _, _), _, hst, hk => o_icmp C hP hF hL kk hst hk
  | (11, _, _, _, _), _, hst, hk => o_goto C hP hF hL kk hst hk
  | (12, _, _, _, _), _, hst, hk => o_switch C hP hF hL kk hst hk
  | (13, _, _, _, _), _, hst, hk => o_getf C hP hF hL kk hst hk
  | (14, _, _, _, _), _, hst, hk => o_putf C hP hF hL kk hst hk
  | (15, _, _, _, _), _, hst, hk => o_iald C hP hF hL kk hst hk
  | (16, _, _, _, _), _, hst, hk => o_iast C hP hF hL kk hst hk
  | (17, _, _, _, _), _, hst, hk => o_aald C hP hF hL kk hst hk
  | (18, _, _, _, _), _, hst, hk => o_aast C hP hF hL kk hst hk
  | (19, _, _, _, _), _, hst, hk => o_alen C hP hF hL kk hst hk
  | (20, _, _, _, _), _, hst, hk => o_new C hP hF hL hc hs kk hst hk
  | (21, _, _, _, _), _, hst, hk => o_newa C hP hF hL hc hs kk hst hk
  | (22, _, _, _, _), _, hst, hk => o_newq C hP hF hL hc hs kk hst hk
  | (23, _, _, _, _), _, hst, hk => o_multi C hP hF hL hc hs kk hst hk
  | (24, _, _, _, _), _, hst, _ => (s_call_next hst).elim
  | (25, _, _, _, _), _, hst, hk => o_oin C hP hF hL kk hst hk
  | (26, _, _, _, _), _, hst, hk => o_copy C hP hF hL kk hst hk
  | (27, _, _, _, _), _, hst, _ => by cases hst
  | (28, _, _, _, _), _, hst, _ => by cases hst
  | (29, _, _, _, _), _, hst, _ => (s_calls_next hst).elim
  | (30, _, _, _, _), _, hst, _ => (s_call_next hst).elim
  | (31, _, _, _, _), _, hst, hk => o_max C hP hF hL hc hs kk hst hk
  | (32, _, _, _, _), _, hst, hk => o_min C hP hF hL hc hs kk hst hk
  | (_ + 33, _, _, _, _), _, hst, _ => (m_bad_ne hst).elim
end MS1
theorem m_over {t : FieldType} {A A' : Array Value} {u U : State} (h : u.vm = U.vm) (hb : (Cond.arrayOver t).before A u = true) : (Cond.arrayOver t).before A' U = true := by
  simp only [Cond.before, Cond.holds, Cond.value] at hb ⊢
  rw [← h]
  exact hb
theorem m_St.warm {D : va_G} {tc : Nat → ClassId} {s U : State} (hS : m_St D tc s) (hW : s.WarmedH U.vm) : m_St D tc U := by
  refine ⟨va_K.moved hW.alike hS.1, fun w hw hn => ?_, fun t ht => ?_⟩
  · have h1 := hS.2.1 w hw hn
    unfold m_nest at hn
    split at hn
    · exact va_Nw.warmF hW h1
    · exact va_Nw.warmM hW h1
    · cases hn
  · have h1 := hS.2.2 t ht
    rw [← Cond.arrayOver_setVmC hW.alike t] at h1
    exact m_over (rfl : (s.setVm U.vm).vm = U.vm) h1
def m_Pc (D : va_G) (tc : Nat → ClassId) (b sb : Nat) (S : Nat × (Nat → Int32)) (As : List MV) (h : MH) : Array Value → State → Prop := fun v U => v = (As.map (m_v b sb)).toArray ∧ m_P D tc b sb h U.heap ∧ m_St D tc U ∧ va_X sb S.1 S.2 U U.heap
def m_Qc (D : va_G) (tc : Nat → ClassId) (b sb : Nat) (rv : List MV) (h : MH) : Array Value → State → Outcome → State → Prop := fun _ st oc t => (∃ v : Option Value, oc = .returned v ∧ v.toList = rv.map (m_v b sb) ∧ m_P D tc b sb h t.heap) ∧ va_F (fun q => b ≤ q) st t
def m_ws (y : Nat) : List Cond := Cond.code (m_y y) (m_bs y) (m_mL y) (m_rt y) :: m_TB
def m_rm (d : Nat) (h h1 : MH) : Room := { frames := d, cells := h1.length - h.length, slots := m_hsz h1 - m_hsz h, locals := 64 * d }
theorem m_blind {D : va_G} {tc : Nat → ClassId} {b sb : Nat} {S : Nat × (Nat → Int32)} {As : List MV} {h : MH} : FrameBlind (m_Pc D tc b sb S As h) := fun a U g mk q => by
  obtain ⟨q0, q1, q2, q3⟩ := q
  refine ⟨q0, q1, ?_, va_X.moved (u := U) (U := U.calling g mk a) (Vm.Alike.refl U.vm) q3⟩
  exact ⟨va_K.moved (u := U) (U := U.calling g mk a) (Vm.Alike.refl U.vm) q2.1, fun w hw hn => va_Nw.same (u := U) (by
    unfold m_nest at hn
    split at hn
    · rfl
    · rfl
    · cases hn) rfl (q2.2.1 w hw hn), fun t ht => m_over (u := U) rfl (q2.2.2 t ht)⟩
section MS2
variable {p : Program} {l : Launch} {e : Env} {R : Room} {s : State} {m : MethodId} {args : Array Value} {below : List Frame} {meth : Method} {c : Code} {H : Heap} {locs : List Loc} {cells slots : Nat} {Q : State → Prop}
variable {pc : Nat} {la : Array Slot} {b sb : Nat} {D : va_G} {tc : Nat → ClassId}
theorem x_called {rv : List MV} {h1 : MH} {a : Array Value} {rest st0 : List Value} {mc ms : Nat} (hr : va_Run p l e R s m args below meth c H locs cells slots mc ms (F0 m pc la st0) rest (m_Qc D tc b sb rv h1 a) (fun q => b ≤ q)) (hF : va_S (fun q => b ≤ q) s.heap H locs)
    (kk : ∀ (H1 : Heap) (locs1 : List Loc), m_P D tc b sb h1 H1 → va_S (fun q => b ≤ q) s.heap H1 locs1 → W p l e R s m args below meth c H1 locs1 (cells + mc) (slots + ms) Q (F0 m (pc + 3) la (rv.map (m_v b sb) ++ rest))) : W p l e R s m args below meth c H locs cells slots Q (F0 m pc la st0) := by
  intro T hT X
  obtain ⟨v, st₀, t, T', L, h0, X', hL, e1, e2, ⟨⟨v', hv, hv2, hb⟩, hz, hk⟩, st⟩ := hr T hT X
  cases hv
  rw [h0] at hz hk
  rw [← e1] at hb hz hk
  obtain ⟨t2, a1, b1⟩ := kk T'.heap (locs ++ L) hb ⟨Nat.le_trans hF.1 hz, fun q h1 h2 => by rw [hk q (Nat.lt_of_lt_of_le h1 hF.1) h2]; exact hF.2.1 q h1 h2, fun q hq => by
      rcases List.mem_append.mp hq with h | h
      · exact hF.2.2 q h
      · exact hL q h⟩ T' rfl X'
  rw [← hv2] at a1
  exact ⟨t2, st t2 a1, b1⟩
end MS2
theorem m_goodTB {y : Nat} {i : Nat} (h : m_in i (Cond.code (m_y y) (m_bs y) (m_mL y) (m_rt y)) = true) : GoodIn m_TB (m_ws y) := by
  intro w hw
  rcases List.mem_cons.mp hw with rfl | hw
  · exact ⟨m_inT h, good_of_word (m_in_ok h).2⟩
  · exact ⟨hw, good_of_word (List.mem_filter.mp hw).2⟩
