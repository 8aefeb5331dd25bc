theorem stp_call {S : Nat × (Nat → Int32)} {d k : Nat} {ls : ML} {st : List MV} {h : MH} {q : Nat × List MV × List MV} : ∀ i : MI, stp S d i k ls st h = .inl (.inr q) → (i.1 = 24 ∨ i.1 = 29 ∨ i.1 = 30) ∧ q.1 = i.2.1
  | (0, _, _, _, _), e => (m_nx_call e).elim
  | (1, _, _, _, _), e => by
    replace e : s_load _ _ _ _ _ _ = _ := e
    unfold s_load at e
    repeat' split at e
    all_goals first | exact (m_bad_ne e).elim | exact (m_nx_call e).elim
  | (2, _, _, _, _), e => by
    replace e : s_store _ _ _ _ _ _ = _ := e
    unfold s_store at e
    repeat' split at e
    all_goals first | exact (m_bad_ne e).elim | exact (m_nx_call e).elim
  | (3, _, _, _, _), e => by
    replace e : s_iinc _ _ _ _ _ _ = _ := e
    unfold s_iinc at e
    repeat' split at e
    all_goals first | exact (m_bad_ne e).elim | exact (m_nx_call e).elim
  | (4, _, _, _, _), e => by
    replace e : s_bin _ _ _ _ _ = _ := e
    unfold s_bin at e
    repeat' split at e
    all_goals first | exact (m_bad_ne e).elim | exact (m_nx_call e).elim
  | (5, _, _, _, _), e => by
    replace e : s_un _ _ _ _ _ = _ := e
    unfold s_un at e
    repeat' split at e
    all_goals first | exact (m_bad_ne e).elim | exact (m_nx_call e).elim
  | (6, _, _, _, _), e => by
    replace e : s_dup _ _ _ _ = _ := e
    unfold s_dup at e
    repeat' split at e
    all_goals first | exact (m_bad_ne e).elim | exact (m_nx_call e).elim
  | (7, _, _, _, _), e => by
    replace e : s_dup2 _ _ _ _ = _ := e
    unfold s_dup2 at e
    repeat' split at e
    all_goals first | exact (m_bad_ne e).elim | exact (m_nx_call e).elim
  | (8, _, _, _, _), e => by
    replace e : s_pop _ _ _ _ = _ := e
    unfold s_pop at e
    repeat' split at e
    all_goals first | exact (m_bad_ne e).elim | exact (m_nx_call e).elim
  | (9, _, _, _, _), e => by
    replace e : s_if _ _ _ _ _ _ = _ := e
    unfold s_if at e
    split at e
    · cases e
    · exact (m_bad_ne e).elim
  | (10, _, _, _, _), e => by
    replace e : s_icmp _ _ _ _ _ _ = _ := e
    unfold s_icmp at e
    split at e
    · cases e
    · exact (m_bad_ne e).elim
  | (11, _, _, _, _), e => by cases e
  | (12, _, _, _, _), e => by
    replace e : s_switch _ _ _ _ _ _ = _ := e
    unfold s_switch at e
    split at e
    · cases e
    · exact (m_bad_ne e).elim
  | (13, _, _, _, _), e => by
    replace e : s_getf _ _ _ _ _ _ = _ := e
    unfold s_getf at e
    repeat' split at e
    all_goals first | exact (m_bad_ne e).elim | exact (m_nx_call e).elim
  | (14, _, _, _, _), e => by
    replace e : s_putf _ _ _ _ _ _ _ = _ := e
    unfold s_putf at e
    repeat' split at e
    all_goals first | exact (m_bad_ne e).elim | exact (m_nx_call e).elim
  | (15, _, _, _, _), e => by
    replace e : s_iald _ _ _ _ _ = _ := e
    unfold s_iald at e
    repeat' split at e
    all_goals first | exact (m_bad_ne e).elim | exact (m_nx_call e).elim
  | (16, _, _, _, _), e => by
    replace e : s_iast _ _ _ _ = _ := e
    unfold s_iast at e
    repeat' split at e
    all_goals first | exact (m_bad_ne e).elim | exact (m_nx_call e).elim
  | (17, _, _, _, _), e => by
    replace e : s_aald _ _ _ _ = _ := e
    unfold s_aald at e
    repeat' split at e
    all_goals first | exact (m_bad_ne e).elim | exact (m_nx_call e).elim
  | (18, _, _, _, _), e => by
    replace e : s_aast _ _ _ _ = _ := e
    unfold s_aast at e
    repeat' split at e
    all_goals first | exact (m_bad_ne e).elim | exact (m_nx_call e).elim
  | (19, _, _, _, _), e => by
    replace e : s_alen _ _ _ _ _ = _ := e
    unfold s_alen at e
    repeat' split at e
    all_goals first | exact (m_bad_ne e).elim | exact (m_nx_call e).elim
  | (20, _, _, _, _), e => by
    replace e : s_new _ _ _ _ _ = _ := e
    unfold s_new at e
    repeat' split at e
    all_goals first | exact (m_bad_ne e).elim | exact (m_nx_call e).elim
  | (21, _, _, _, _), e => by
    replace e : s_newa _ _ _ _ = _ := e
    unfold s_newa at e
    repeat' split at e
    all_goals first | exact (m_bad_ne e).elim | exact (m_nx_call e).elim
  | (22, _, _, _, _), e => by
    replace e : s_newq _ _ _ _ _ = _ := e
    unfold s_newq at e
    repeat' split at e
    all_goals first | exact (m_bad_ne e).elim | exact (m_nx_call e).elim
  | (23, _, _, _, _), e => by
    replace e : s_multi _ _ _ _ = _ := e
    unfold s_multi at e
    repeat' split at e
    all_goals first | exact (m_bad_ne e).elim | exact (m_nx_call e).elim
  | (24, _, _, _, _), e => by
    refine ⟨Or.inl rfl, ?_⟩
    replace e : s_call _ _ _ _ _ = _ := e
    unfold s_call at e
    repeat' split at e
    all_goals first | exact (m_bad_ne e).elim | (cases e; rfl)
  | (25, _, _, _, _), e => by
    replace e : s_oin _ _ _ _ _ = _ := e
    unfold s_oin at e
    repeat' split at e
    all_goals first | exact (m_bad_ne e).elim | exact (m_nx_call e).elim
  | (26, _, _, _, _), e => by
    replace e : s_copy _ _ _ _ _ = _ := e
    unfold s_copy at e
    repeat' split at e
    all_goals first | exact (m_bad_ne e).elim | exact (m_nx_call e).elim
  | (27, _, _, _, _), e => by cases e
  | (28, _, _, _, _), e => by cases e
  | (29, _, _, _, _), e => by
    refine ⟨Or.inr (Or.inl rfl), ?_⟩
    replace e : s_calls _ _ _ = _ := e
    unfold s_calls at e
    repeat' split at e
    all_goals first | exact (m_bad_ne e).elim | (cases e; rfl)
  | (30, _, _, _, _), e => by
    refine ⟨Or.inr (Or.inr rfl), ?_⟩
    replace e : s_call _ _ _ _ _ = _ := e
    unfold s_call at e
    repeat' split at e
    all_goals first | exact (m_bad_ne e).elim | (cases e; rfl)
  | (31, _, _, _, _), e => by
    replace e : s_mm _ _ _ _ _ _ = _ := e
    unfold s_mm at e
    repeat' split at e
    all_goals first | exact (m_bad_ne e).elim | exact (m_nx_call e).elim
  | (32, _, _, _, _), e => by
    replace e : s_mm _ _ _ _ _ _ = _ := e
    unfold s_mm at e
    repeat' split at e
    all_goals first | exact (m_bad_ne e).elim | exact (m_nx_call e).elim
  | (_ + 33, _, _, _, _), e => (m_bad_ne e).elim
theorem body_ok (l : Launch) {S : Nat × (Nat → Int32)} {D : va_G} {tc : Nat → ClassId} {b sb : Nat} (hsb : sb < b) : ∀ (n d y k : Nat) (ls : ML) (st : List MV) (h : MH) (kR : Nat) (stR : List MV) (h' : MH), y < 176 → bodyN S n d y k ls st h = some (kR, stR, h') → (h.length ≤ h'.length ∧ m_hsz h ≤ m_hsz h') ∧ m_Body l S D tc b sb y d k ls st h kR stR h'
  | 0, _, _, _, _, _, _, _, _, _, _, e => by
    unfold bodyN at e
    cases e
  | n + 1, d, y, k, ls, st, h, kR, stR, h', hy, e => by
    unfold bodyN at e
    split at e
    · cases e
    · rename_i i hi
      have hck := m_ck_at hy hi
      split at e
      · cases e
        exact ⟨⟨Nat.le_refl _, Nat.le_refl _⟩, fun p e R s m args below meth c H locs cells slots Q la C hP hF hL hc hs kk => kk H locs la cells slots hP hF rfl rfl⟩
      · cases e
      · rename_i q hst
        obtain ⟨k1, ls1, st1, h1⟩ := q
        obtain ⟨hm1, hm2⟩ := stp_mono i hst
        obtain ⟨⟨hn1, hn2⟩, hB⟩ := body_ok l hsb n d y k1 ls1 st1 h1 kR stR h' hy e
        dsimp only at hm1 hm2
        refine ⟨⟨Nat.le_trans hm1 hn1, Nat.le_trans hm2 hn2⟩, fun p e R s m args below meth c H locs cells slots Q la C hP hF hL hc hs kk => ?_⟩
        refine stp_ok C hP hF hL (by dsimp only; omega) (by dsimp only; omega) (fun H1 locs1 la1 cells1 slots1 hP1 hF1 hL1 hc1 hs1 => ?_) i _ hst hck
        dsimp only at hP1 hL1 hc1 hs1
        refine hB p e R s m args below meth c H1 locs1 cells1 slots1 Q la1 C hP1 hF1 hL1 (by omega) (by omega) (fun H2 locs2 la2 cells2 slots2 hP2 hF2 hc2 hs2 => kk H2 locs2 la2 cells2 slots2 hP2 hF2 (by omega) (by omega))
      · rename_i q hst
        obtain ⟨y', As, rest⟩ := q
        split at e
        · cases e
        · rename_i d'
          split at e
          · cases e
          · rename_i r hr
            obtain ⟨kR1, stR1, h1⟩ := r
            split at e
            · cases e
            · rename_i rv hrv
              dsimp only at hr hrv e
              obtain ⟨hop, hyy⟩ := stp_call i hst
              obtain ⟨op, a, b', v, ts⟩ := i
              dsimp only at hop hyy
              subst hyy
              have hy' : y' < 176 := by
                rcases hop with rfl | rfl | rfl
                · have hck2 : k_call _ _ _ _ _ _ _ _ = true := hck
                  unfold k_call at hck2
                  simp only [Bool.and_eq_true] at hck2
                  exact (k_meth_ok hck2.1.2).1
                · have hck2 : k_stat _ _ _ _ _ _ _ _ = true := hck
                  unfold k_stat at hck2
                  simp only [Bool.and_eq_true] at hck2
                  exact (k_meth_ok hck2.1.2).1
                · have hck2 : k_spec _ _ _ _ _ _ _ _ = true := hck
                  unfold k_spec at hck2
                  simp only [Bool.and_eq_true] at hck2
                  exact (k_meth_ok hck2.1.2).1
              obtain ⟨hm, hB1⟩ := body_ok l hsb n d' y' 0 (m_ent y' As) [] h kR1 stR1 h1 hy' hr
              obtain ⟨hn, hB⟩ := body_ok l hsb n (d' + 1) y (k + 1) ls (rv ++ rest) h1 kR stR h' hy e
              refine ⟨⟨Nat.le_trans hm.1 hn.1, Nat.le_trans hm.2 hn.2⟩, fun p e R s m args below meth c H locs cells slots Q la C hP hF hL hc hs kk => ?_⟩
              have go : ∀ (H1 : Heap) (locs1 : List Loc), m_P D tc b sb h1 H1 → va_S (fun q => b ≤ q) s.heap H1 locs1 → W p l e R s m args below meth c H1 locs1 (cells + (h1.length - h.length)) (slots + (m_hsz h1 - m_hsz h)) Q (F0 m (m_pc y (k + 1)) la ((rv ++ rest).map (m_v b sb))) := fun H1 locs1 hP1 hF1 =>
                hB p e R s m args below meth c H1 locs1 _ _ Q la C hP1 hF1 hL (by omega) (by omega) (fun H2 locs2 la2 cells2 slots2 hP2 hF2 hc2 hs2 => kk H2 locs2 la2 cells2 slots2 hP2 hF2 (by omega) (by omega))
              rcases hop with rfl | rfl | rfl
              · exact c_virt C hP hF hL hst hck hm (by omega) (by omega) (fun h1 h2 => met_ok l hsb h1 h2 hm hB1 hrv) go
              · exact c_stat C hP hF hL hst hck hm (by omega) (by omega) (fun h1 h2 => met_ok l hsb h1 h2 hm hB1 hrv) go
              · exact c_spec C hP hF hL hst hck hm (by omega) (by omega) (fun h1 h2 => met_ok l hsb h1 h2 hm hB1 hrv) go
