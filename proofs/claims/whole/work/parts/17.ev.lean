/-! runs over the memory: weakest preconditions -/
theorem bodyN_succ {S : Nat × (Nat → Int32)} : ∀ (n d y k : Nat) (ls : ML) (st : List MV) (h : MH) (r : Nat × List MV × MH), bodyN S n d y k ls st h = some r → bodyN S (n + 1) d y k ls st h = some r
  | 0, _, _, _, _, _, _, _, e => by
    unfold bodyN at e
    cases e
  | n + 1, d, y, k, ls, st, h, r, e => by
    unfold bodyN at e ⊢
    split at e
    · cases e
    · rename_i i hi
      split at e
      · exact e
      · cases e
      · exact bodyN_succ n _ _ _ _ _ _ _ e
      · split at e
        · cases e
        · rename_i d'
          try dsimp only at e ⊢
          split at e
          · cases e
          · rename_i r1 hr1
            rw [bodyN_succ n _ _ _ _ _ _ _ hr1]
            dsimp only
            split at e
            · cases e
            · rename_i rv hrv
              exact bodyN_succ n _ _ _ _ _ _ _ e
theorem bodyN_le {S : Nat × (Nat → Int32)} {n n' d y k : Nat} {ls : ML} {st : List MV} {h : MH} {r : Nat × List MV × MH} (hn : n ≤ n') (e : bodyN S n d y k ls st h = some r) : bodyN S n' d y k ls st h = some r := by
  induction hn with
  | refl => exact e
  | step _ ih => exact bodyN_succ _ _ _ _ _ _ _ _ ih
theorem b_next {S : Nat × (Nat → Int32)} {n d y k k' : Nat} {ls ls' : ML} {st st' : List MV} {h h' : MH} {i : MI} {cd : List MI} (hc : m_code y = cd) (hi : cd[k]? = some i) (hs : stp S d i k ls st h = .inl (.inl (k', ls', st', h'))) : bodyN S (n + 1) d y k ls st h = bodyN S n d y k' ls' st' h' := by
  conv => lhs; unfold bodyN
  rw [hc, hi]
  dsimp only
  rw [hs]
theorem b_call {S : Nat × (Nat → Int32)} {n d y k y' : Nat} {ls : ML} {st As rest rv : List MV} {kR : Nat} {stR : List MV} {h hh : MH} {i : MI} {cd : List MI} (hc : m_code y = cd) (hi : cd[k]? = some i) (hs : stp S (d + 1) i k ls st h = .inl (.inr (y', As, rest))) (h1 : bodyN S n d y' 0 (m_ent y' As) [] h = some (kR, stR, hh)) (h2 : m_ret y' kR stR = some rv) : bodyN S (n + 1) (d + 1) y k ls st h = bodyN S n (d + 1) y (k + 1) ls (rv ++ rest) hh := by
  conv => lhs; unfold bodyN
  rw [hc, hi]
  dsimp only
  rw [hs]
  dsimp only
  rw [h1]
  dsimp only
  rw [h2]
theorem b_ret {S : Nat × (Nat → Int32)} {n d y k : Nat} {ls : ML} {st : List MV} {h : MH} {i : MI} {cd : List MI} (hc : m_code y = cd) (hi : cd[k]? = some i) (hs : stp S d i k ls st h = .inr true) : bodyN S (n + 1) d y k ls st h = some (k, st, h) := by
  conv => lhs; unfold bodyN
  rw [hc, hi]
  dsimp only
  rw [hs]
def Ev (S : Nat × (Nat → Int32)) (d y k : Nat) (ls : ML) (st : List MV) (σ : Mem) (Q : MQ1) : Prop := ∃ (n kR : Nat) (stR : List MV) (σ' : Mem) (rv : List MV), bodyN S n d y k ls st (hp σ) = some (kR, stR, hp σ') ∧ m_ret y kR stR = some rv ∧ Q rv σ'
def Ec (S : Nat × (Nat → Int32)) (d y : Nat) (As : List MV) (σ : Mem) (Q : MQ1) : Prop := Ev S d y 0 (m_ent y As) [] σ Q
section EV
variable {S : Nat × (Nat → Int32)} {d y k : Nat} {ls : ML} {st : List MV} {σ : Mem} {Q : MQ1} {cd : List MI}
theorem Ev.mono {Q' : MQ1} (h : Ev S d y k ls st σ Q) (hq : ∀ rv σ', Q rv σ' → Q' rv σ') : Ev S d y k ls st σ Q' := by
  obtain ⟨n, kR, stR, σ', rv, h1, h2, h3⟩ := h
  exact ⟨n, kR, stR, σ', rv, h1, h2, hq _ _ h3⟩
theorem Ec.mono {As : List MV} {Q' : MQ1} (h : Ec S d y As σ Q) (hq : ∀ rv σ', Q rv σ' → Q' rv σ') : Ec S d y As σ Q' := Ev.mono h hq
theorem e_next {i : MI} {k' : Nat} {ls' : ML} {st' : List MV} {σ' : Mem} (hc : m_code y = cd) (hi : cd[k]? = some i) (hs : stp S d i k ls st (hp σ) = .inl (.inl (k', ls', st', hp σ'))) (kk : Ev S d y k' ls' st' σ' Q) : Ev S d y k ls st σ Q := by
  obtain ⟨n, kR, stR, σ2, rv, h1, h2, h3⟩ := kk
  exact ⟨n + 1, kR, stR, σ2, rv, (b_next hc hi hs).trans h1, h2, h3⟩
theorem e_call0 {i : MI} {y' : Nat} {As rest : List MV} (hc : m_code y = cd) (hi : cd[k]? = some i) (hs : stp S (d + 1) i k ls st (hp σ) = .inl (.inr (y', As, rest))) (kk : Ec S d y' As σ (fun rv σ' => Ev S (d + 1) y (k + 1) ls (rv ++ rest) σ' Q)) : Ev S (d + 1) y k ls st σ Q := by
  obtain ⟨n, kR, stR, σ2, rv, h1, h2, h3⟩ := kk
  obtain ⟨n2, kR2, stR2, σ3, rv2, h4, h5, h6⟩ := h3
  exact ⟨max n n2 + 1, kR2, stR2, σ3, rv2, (b_call hc hi hs (bodyN_le (Nat.le_max_left n n2) h1) h2).trans (bodyN_le (Nat.le_max_right n n2) h4), h5, h6⟩
theorem e_ret {i : MI} {rv : List MV} (hc : m_code y = cd) (hi : cd[k]? = some i) (hs : stp S d i k ls st (hp σ) = .inr true) (hr : m_ret y k st = some rv) (kk : Q rv σ) : Ev S d y k ls st σ Q := by
  exact ⟨1, k, st, σ, rv, b_ret hc hi hs, hr, kk⟩
theorem e_push {a z : Nat} {v : Int32} {ts : List Nat} (hc : m_code y = cd) (hi : cd[k]? = some (0, a, z, v, ts)) (kk : Ev S d y (k + 1) ls (.inl v :: st) σ Q) : Ev S d y k ls st σ Q := e_next hc hi rfl kk
theorem e_load {a z : Nat} {f : Int32} {ts : List Nat} {v : MV} (hc : m_code y = cd) (hi : cd[k]? = some (1, a, z, f, ts)) (hv : ls[a]? = some (some v)) (hm : m_kind f v = true) (kk : Ev S d y (k + 1) ls (v :: st) σ Q) : Ev S d y k ls st σ Q := by
  refine e_next hc hi ?_ kk
  show s_load a f k ls st (hp σ) = _
  unfold s_load
  rw [hv]
  dsimp only
  rw [if_pos hm]
  rfl
theorem e_store {a z : Nat} {f : Int32} {ts : List Nat} {v : MV} {ls' : ML} (hc : m_code y = cd) (hi : cd[k]? = some (2, a, z, f, ts)) (hl : a < ls.length) (hm : m_kind f v = true) (hls : ls.set a (some v) = ls') (kk : Ev S d y (k + 1) ls' st σ Q) : Ev S d y k ls (v :: st) σ Q := by
  subst hls
  refine e_next hc hi ?_ kk
  show s_store a f k ls (v :: st) (hp σ) = _
  unfold s_store
  dsimp only
  rw [if_pos ⟨hl, hm⟩]
  rfl
theorem e_iinc {a z : Nat} {v x : Int32} {ts : List Nat} {ls' : ML} (hc : m_code y = cd) (hi : cd[k]? = some (3, a, z, v, ts)) (hv : ls[a]? = some (some (.inl x))) (hls : ls.set a (some (.inl (x + v))) = ls') (kk : Ev S d y (k + 1) ls' st σ Q) : Ev S d y k ls st σ Q := by
  subst hls
  refine e_next hc hi ?_ kk
  show s_iinc a v k ls st (hp σ) = _
  unfold s_iinc
  rw [hv]
  rfl
theorem e_bin {w z : Nat} {f : Int32} {ts : List Nat} {x x' r : Int32} (hc : m_code y = cd) (hi : cd[k]? = some (4, w, z, f, ts)) (hr : m_bin w x x' = r) (kk : Ev S d y (k + 1) ls (.inl r :: st) σ Q) : Ev S d y k ls (.inl x' :: .inl x :: st) σ Q := by
  subst hr
  exact e_next hc hi rfl kk
theorem e_un {w z : Nat} {f : Int32} {ts : List Nat} {x r : Int32} (hc : m_code y = cd) (hi : cd[k]? = some (5, w, z, f, ts)) (hr : m_un w x = r) (kk : Ev S d y (k + 1) ls (.inl r :: st) σ Q) : Ev S d y k ls (.inl x :: st) σ Q := by
  subst hr
  exact e_next hc hi rfl kk
theorem e_dup {a z : Nat} {f : Int32} {ts : List Nat} {v : MV} (hc : m_code y = cd) (hi : cd[k]? = some (6, a, z, f, ts)) (kk : Ev S d y (k + 1) ls (v :: v :: st) σ Q) : Ev S d y k ls (v :: st) σ Q := e_next hc hi rfl kk
theorem e_dup2 {a z : Nat} {f : Int32} {ts : List Nat} {v u : MV} (hc : m_code y = cd) (hi : cd[k]? = some (7, a, z, f, ts)) (kk : Ev S d y (k + 1) ls (v :: u :: v :: u :: st) σ Q) : Ev S d y k ls (v :: u :: st) σ Q := e_next hc hi rfl kk
theorem e_pop {a z : Nat} {f : Int32} {ts : List Nat} {v : MV} (hc : m_code y = cd) (hi : cd[k]? = some (8, a, z, f, ts)) (kk : Ev S d y (k + 1) ls st σ Q) : Ev S d y k ls (v :: st) σ Q := e_next hc hi rfl kk
theorem e_if {w t : Nat} {f : Int32} {ts : List Nat} {x : Int32} {P : Prop} (hc : m_code y = cd) (hi : cd[k]? = some (9, w, t, f, ts)) (hp' : m_cnd w x 0 = true ↔ P) (kt : P → Ev S d y t ls st σ Q) (kf : ¬ P → Ev S d y (k + 1) ls st σ Q) : Ev S d y k ls (.inl x :: st) σ Q := by
  by_cases h : m_cnd w x 0 = true
  · refine e_next hc hi ?_ (kt (hp'.mp h))
    show s_if w t k ls (.inl x :: st) (hp σ) = _
    unfold s_if
    dsimp only
    rw [if_pos h]
  · refine e_next hc hi ?_ (kf (fun q => h (hp'.mpr q)))
    show s_if w t k ls (.inl x :: st) (hp σ) = _
    unfold s_if
    dsimp only
    rw [if_neg h]
theorem e_icmp {w t : Nat} {f : Int32} {ts : List Nat} {x x' : Int32} {P : Prop} (hc : m_code y = cd) (hi : cd[k]? = some (10, w, t, f, ts)) (hp' : m_cnd w x x' = true ↔ P) (kt : P → Ev S d y t ls st σ Q) (kf : ¬ P → Ev S d y (k + 1) ls st σ Q) : Ev S d y k ls (.inl x' :: .inl x :: st) σ Q := by
  by_cases h : m_cnd w x x' = true
  · refine e_next hc hi ?_ (kt (hp'.mp h))
    show s_icmp w t k ls (.inl x' :: .inl x :: st) (hp σ) = _
    unfold s_icmp
    dsimp only
    rw [if_pos h]
  · refine e_next hc hi ?_ (kf (fun q => h (hp'.mpr q)))
    show s_icmp w t k ls (.inl x' :: .inl x :: st) (hp σ) = _
    unfold s_icmp
    dsimp only
    rw [if_neg h]
theorem m_c0 {x x' : Int32} : m_cnd 0 x x' = true ↔ x = x' := by simp [m_cnd]
theorem m_c1 {x x' : Int32} : m_cnd 1 x x' = true ↔ ¬ x = x' := by simp [m_cnd]
theorem m_c2 {x x' : Int32} : m_cnd 2 x x' = true ↔ x < x' := by simp [m_cnd]
theorem m_c3 {x x' : Int32} : m_cnd 3 x x' = true ↔ x' ≤ x := by simp [m_cnd]
theorem m_c4 {x x' : Int32} : m_cnd 4 x x' = true ↔ x' < x := by simp [m_cnd]
theorem m_c5 {x x' : Int32} : m_cnd 5 x x' = true ↔ x ≤ x' := by simp [m_cnd]
theorem e_goto {a t : Nat} {f : Int32} {ts : List Nat} (hc : m_code y = cd) (hi : cd[k]? = some (11, a, t, f, ts)) (kk : Ev S d y t ls st σ Q) : Ev S d y k ls st σ Q := e_next hc hi rfl kk
theorem e_switch {a t : Nat} {lo : Int32} {ts : List Nat} {x : Int32} (hc : m_code y = cd) (hi : cd[k]? = some (12, a, t, lo, ts)) (kk : Ev S d y (m_swt t lo ts x) ls st σ Q) : Ev S d y k ls (.inl x :: st) σ Q := e_next hc hi rfl kk
theorem e_getI {ci j a : Nat} {f : Int32} {ts : List Nat} {fs : List (Option Nat)} (hc : m_code y = cd) (hi : cd[k]? = some (13, ci, j, f, ts)) (hs : m_sh[a]? = some (.inl (ci, fs))) (hf : fs[j]? = some none) (kk : Ev S d y (k + 1) ls (.inl (σ a j) :: st) σ Q) : Ev S d y k ls (.inr (some a) :: st) σ Q := by
  refine e_next hc hi ?_ kk
  show s_getf ci j k ls (.inr (some a) :: st) (hp σ) = _
  unfold s_getf
  dsimp only
  rw [hp_cell hs]
  dsimp only [m_cv]
  rw [if_pos rfl, m_fv_get hf]
  rfl
theorem e_getR {ci j a r : Nat} {f : Int32} {ts : List Nat} {fs : List (Option Nat)} (hc : m_code y = cd) (hi : cd[k]? = some (13, ci, j, f, ts)) (hs : m_sh[a]? = some (.inl (ci, fs))) (hf : fs[j]? = some (some r)) (kk : Ev S d y (k + 1) ls (.inr (some r) :: st) σ Q) : Ev S d y k ls (.inr (some a) :: st) σ Q := by
  refine e_next hc hi ?_ kk
  show s_getf ci j k ls (.inr (some a) :: st) (hp σ) = _
  unfold s_getf
  dsimp only
  rw [hp_cell hs]
  dsimp only [m_cv]
  rw [if_pos rfl, m_fv_get hf]
  rfl
theorem e_putI {ci j a : Nat} {v : Int32} {ts : List Nat} {fs : List (Option Nat)} (hc : m_code y = cd) (hi : cd[k]? = some (14, ci, j, 0, ts)) (hs : m_sh[a]? = some (.inl (ci, fs))) (hf : fs[j]? = some none) (kk : Ev S d y (k + 1) ls st (up σ a j v) Q) : Ev S d y k ls (.inl v :: .inr (some a) :: st) σ Q := by
  refine e_next hc hi ?_ kk
  show s_putf ci j 0 k ls (.inl v :: .inr (some a) :: st) (hp σ) = _
  unfold s_putf
  dsimp only
  rw [hp_cell hs]
  dsimp only [m_cv]
  rw [if_pos ⟨rfl, by unfold m_fv; rw [List.length_mapIdx]; exact (List.getElem?_eq_some_iff.mp hf).1, rfl⟩, hp_putf hs hf]
  rfl
theorem m_nI_cl {i : Int32} {j n : Nat} (hi : i = nI j) (hj : j < n) (hn : n < 10000) : ¬ i < 0 ∧ i.toNatClampNeg = j := by
  subst hi
  exact ⟨nI_pos (by omega), nI_clamp (by omega)⟩
theorem e_iald {a z j n r : Nat} {f : Int32} {ts : List Nat} {i : Int32} (hc : m_code y = cd) (hi : cd[k]? = some (15, a, z, f, ts)) (hs : m_sh[r]? = some (.inr (.inl n))) (hn : n < 10000) (hj : i = nI j) (hl : j < n) (kk : Ev S d y (k + 1) ls (.inl (σ r j) :: st) σ Q) : Ev S d y k ls (.inl i :: .inr (some r) :: st) σ Q := by
  obtain ⟨h1, h2⟩ := m_nI_cl hj hl hn
  refine e_next hc hi ?_ kk
  show s_iald S k ls (.inl i :: .inr (some r) :: st) (hp σ) = _
  unfold s_iald
  dsimp only
  have hr : ¬ r = m_scr := (m_cell_some (hp_cell (σ := σ) hs)).1
  rw [if_neg h1, if_neg hr, hp_get hs]
  dsimp only [m_cv]
  rw [h2, List.getElem?_map, List.getElem?_range hl]
  rfl
theorem e_iast {a z j n r : Nat} {f : Int32} {ts : List Nat} {i v : Int32} (hc : m_code y = cd) (hi : cd[k]? = some (16, a, z, f, ts)) (hs : m_sh[r]? = some (.inr (.inl n))) (hn : n < 10000) (hj : i = nI j) (hl : j < n) (kk : Ev S d y (k + 1) ls st (up σ r j v) Q) : Ev S d y k ls (.inl v :: .inl i :: .inr (some r) :: st) σ Q := by
  obtain ⟨h1, h2⟩ := m_nI_cl hj hl hn
  refine e_next hc hi ?_ kk
  show s_iast k ls (.inl v :: .inl i :: .inr (some r) :: st) (hp σ) = _
  unfold s_iast
  dsimp only
  rw [hp_cell hs]
  dsimp only [m_cv]
  rw [if_pos ⟨h1, by rw [h2]; simp; exact hl⟩, h2, hp_iast hs hl]
  rfl
theorem e_aald {a z j r kd q : Nat} {f : Int32} {ts : List Nat} {i : Int32} {l : List Nat} (hc : m_code y = cd) (hi : cd[k]? = some (17, a, z, f, ts)) (hs : m_sh[r]? = some (.inr (.inr (kd, l)))) (hkd : kd < 4 ∧ 0 < kd) (hj : i = nI j) (hl : l[j]? = some q) (hj2 : j < 9999) (kk : Ev S d y (k + 1) ls (.inr (some q) :: st) σ Q) : Ev S d y k ls (.inl i :: .inr (some r) :: st) σ Q := by
  obtain ⟨h1, h2⟩ := m_nI_cl hj hj2 (by omega)
  refine e_next hc hi ?_ kk
  show s_aald k ls (.inl i :: .inr (some r) :: st) (hp σ) = _
  unfold s_aald
  dsimp only
  rw [if_neg h1, hp_cell hs]
  dsimp only [m_cv]
  rw [if_pos hkd, h2, List.getElem?_map, hl]
  rfl
theorem e_copy {a z r q n n1 sp dp m : Nat} {f : Int32} {ts : List Nat} {i1 i2 i3 : Int32} (hc : m_code y = cd) (hi : cd[k]? = some (26, a, z, f, ts)) (hs : m_sh[r]? = some (.inr (.inl n))) (hs1 : m_sh[q]? = some (.inr (.inl n1))) (hn : n < 9999) (hn1 : n1 < 9999) (h1 : i1 = nI sp) (h2 : i2 = nI dp) (h3 : i3 = nI m) (hl : sp + m ≤ n) (hl1 : dp + m ≤ n1) (hst : st.length ≤ 8)
    (kk : Ev S (d + 1) y (k + 1) ls st (upr σ q (fun k => if dp ≤ k ∧ k < dp + m then σ r (sp + (k - dp)) else σ q k)) Q) : Ev S (d + 1) y k ls (.inl i3 :: .inl i2 :: .inr (some q) :: .inl i1 :: .inr (some r) :: st) σ Q := by
  obtain ⟨a1, b1⟩ := m_nI_cl h1 (show sp < 9999 by omega) (by omega)
  obtain ⟨a2, b2⟩ := m_nI_cl h2 (show dp < 9999 by omega) (by omega)
  obtain ⟨a3, b3⟩ := m_nI_cl h3 (show m < 9999 by omega) (by omega)
  refine e_next hc hi ?_ kk
  show s_copy (d + 1) k ls (.inl i3 :: .inl i2 :: .inr (some q) :: .inl i1 :: .inr (some r) :: st) (hp σ) = _
  unfold s_copy
  dsimp only
  rw [hp_cell hs, hp_cell hs1]
  dsimp only [m_cv]
  rw [b1, b2, b3, if_pos ⟨a3, a2, a1, by simp; exact hl, by simp; exact hl1, by omega, hst⟩, hp_copy hs hs1 hl]
  rfl
theorem e_max {a z : Nat} {f : Int32} {ts : List Nat} {x x' r : Int32} (hc : m_code y = cd) (hi : cd[k]? = some (31, a, z, f, ts)) (hst : st.length ≤ 8) (hr : (if x < x' then x' else x) = r) (kk : Ev S (d + 1) y (k + 1) ls (.inl r :: st) σ Q) : Ev S (d + 1) y k ls (.inl x' :: .inl x :: st) σ Q := by
  subst hr
  refine e_next hc hi ?_ kk
  show s_mm 0 (d + 1) k ls (.inl x' :: .inl x :: st) (hp σ) = _
  unfold s_mm
  dsimp only
  rw [if_pos ⟨by omega, hst⟩]
  rfl
theorem e_min {a z : Nat} {f : Int32} {ts : List Nat} {x x' r : Int32} (hc : m_code y = cd) (hi : cd[k]? = some (32, a, z, f, ts)) (hst : st.length ≤ 8) (hr : (if x' < x then x' else x) = r) (kk : Ev S (d + 1) y (k + 1) ls (.inl r :: st) σ Q) : Ev S (d + 1) y k ls (.inl x' :: .inl x :: st) σ Q := by
  subst hr
  refine e_next hc hi ?_ kk
  show s_mm 1 (d + 1) k ls (.inl x' :: .inl x :: st) (hp σ) = _
  unfold s_mm
  dsimp only
  rw [if_pos ⟨by omega, hst⟩]
  rfl
theorem e_virt {y' n ci a : Nat} {f : Int32} {ts : List Nat} {As rest : List MV} {fs : List (Option Nat)} (hc : m_code y = cd) (hi : cd[k]? = some (24, y', n, f, ts)) (hci : ts.getD 0 0 = ci) (hn : n ≤ st.length) (hA : (st.take n).reverse = .inr (some a) :: As) (hr : st.drop n = rest) (hr8 : rest.length ≤ 8) (hs : m_sh[a]? = some (.inl (ci, fs))) (kk : Ec S d y' (.inr (some a) :: As) σ (fun rv σ' => Ev S (d + 1) y (k + 1) ls (rv ++ rest) σ' Q)) : Ev S (d + 1) y k ls st σ Q := by
  subst hr
  refine e_call0 hc hi ?_ kk
  show s_call y' n (ts.getD 0 0) st (hp σ) = _
  unfold s_call
  rw [hA]
  dsimp only
  rw [hp_cell hs]
  dsimp only [m_cv]
  rw [if_pos ⟨hci.symm, hn, hr8⟩]
theorem e_stat {y' n : Nat} {f : Int32} {ts : List Nat} {As rest : List MV} (hc : m_code y = cd) (hi : cd[k]? = some (29, y', n, f, ts)) (hn : n ≤ st.length) (hA : (st.take n).reverse = As) (hr : st.drop n = rest) (hr8 : rest.length ≤ 8) (kk : Ec S d y' As σ (fun rv σ' => Ev S (d + 1) y (k + 1) ls (rv ++ rest) σ' Q)) : Ev S (d + 1) y k ls st σ Q := by
  subst hr
  subst hA
  refine e_call0 hc hi ?_ kk
  show s_calls y' n st = _
  unfold s_calls
  rw [if_pos ⟨hn, hr8⟩]
theorem e_ireturn {a z : Nat} {f : Int32} {ts : List Nat} {v : Int32} (hc : m_code y = cd) (hi : cd[k]? = some (27, a, z, f, ts)) (hk : m_rk y = 1) (kk : Q [.inl v] σ) : Ev S d y k ls [.inl v] σ Q := by
  refine e_ret hc hi rfl ?_ kk
  unfold m_ret
  rw [hc, hi, hk]
  rfl
theorem e_zreturn {a z : Nat} {f : Int32} {ts : List Nat} {v : Int32} (hc : m_code y = cd) (hi : cd[k]? = some (27, a, z, f, ts)) (hk : m_rk y = 2) (hv : v = 0 ∨ v = 1) (kk : Q [.inl v] σ) : Ev S d y k ls [.inl v] σ Q := by
  refine e_ret hc hi rfl ?_ kk
  unfold m_ret
  rw [hc, hi, hk]
  show (if v = 0 ∨ v = 1 then some [Sum.inl v] else none) = some [(Sum.inl v : MV)]
  rw [if_pos hv]
theorem e_return {a z : Nat} {f : Int32} {ts : List Nat} (hc : m_code y = cd) (hi : cd[k]? = some (28, a, z, f, ts)) (hk : m_rk y = 0) (kk : Q [] σ) : Ev S d y k ls [] σ Q := by
  refine e_ret hc hi rfl ?_ kk
  unfold m_ret
  rw [hc, hi, hk]
  rfl
end EV
