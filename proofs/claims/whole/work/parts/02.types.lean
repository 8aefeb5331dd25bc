/-! values, cells, heaps, numbered instructions of a small machine -/
abbrev MV : Type := Int32 ⊕ Option Nat
abbrev MC : Type := (Nat × List MV) ⊕ (List Int32 ⊕ (Nat × List (Option Nat)))
abbrev MH : Type := List MC
abbrev ML : Type := List (Option MV)
abbrev MI : Type := Nat × Nat × Nat × Int32 × List Nat
abbrev MS : Type := Nat × ML × List MV × MH
abbrev MR : Type := (MS ⊕ (Nat × List MV × List MV)) ⊕ Bool
def m_scr : Nat := 1000000
def m_cell (h : MH) (a : Nat) : Option MC := if a = m_scr then none else h[a]?
def m_bin (w : Nat) (x y : Int32) : Int32 := match w with
  | 0 => x + y
  | 1 => x - y
  | 2 => x * y
  | 3 => x &&& y
  | 4 => x ||| y
  | 5 => x ^^^ y
  | 6 => x <<< (y &&& 31)
  | 7 => x >>> (y &&& 31)
  | _ => (x.toUInt32 >>> (y.toUInt32 &&& Int32.toUInt32 31)).toInt32
def m_un (w : Nat) (x : Int32) : Int32 := match w with
  | 0 => -x
  | 1 => x.toInt8.toInt32
  | _ => x.toInt16.toInt32
def m_cnd (w : Nat) (x y : Int32) : Bool := match w with
  | 0 => decide (x = y)
  | 1 => decide (¬ x = y)
  | 2 => decide (x < y)
  | 3 => decide (y ≤ x)
  | 4 => decide (y < x)
  | _ => decide (x ≤ y)
def m_nx (k : Nat) (ls : ML) (st : List MV) (h : MH) : MR := .inl (.inl (k + 1, ls, st, h))
def m_bad : MR := .inr false
def m_kind (f : Int32) (v : MV) : Bool := match v with
  | .inl _ => decide (f = 0)
  | .inr (some _) => decide (f = 1)
  | .inr none => false
def s_load (a : Nat) (f : Int32) (k : Nat) (ls : ML) (st : List MV) (h : MH) : MR := match ls[a]? with
  | some (some v) => if m_kind f v = true then m_nx k ls (v :: st) h else m_bad
  | _ => m_bad
def s_store (a : Nat) (f : Int32) (k : Nat) (ls : ML) (st : List MV) (h : MH) : MR := match st with
  | v :: r => if a < ls.length ∧ m_kind f v = true then m_nx k (ls.set a (some v)) r h else m_bad
  | _ => m_bad
def s_iinc (a : Nat) (v : Int32) (k : Nat) (ls : ML) (st : List MV) (h : MH) : MR := match ls[a]? with
  | some (some (.inl x)) => m_nx k (ls.set a (some (.inl (x + v)))) st h
  | _ => m_bad
def s_bin (w k : Nat) (ls : ML) (st : List MV) (h : MH) : MR := match st with
  | .inl y :: .inl x :: r => m_nx k ls (.inl (m_bin w x y) :: r) h
  | _ => m_bad
def s_un (w k : Nat) (ls : ML) (st : List MV) (h : MH) : MR := match st with
  | .inl x :: r => m_nx k ls (.inl (m_un w x) :: r) h
  | _ => m_bad
def s_dup (k : Nat) (ls : ML) (st : List MV) (h : MH) : MR := match st with
  | v :: r => m_nx k ls (v :: v :: r) h
  | _ => m_bad
def s_dup2 (k : Nat) (ls : ML) (st : List MV) (h : MH) : MR := match st with
  | v :: u :: r => m_nx k ls (v :: u :: v :: u :: r) h
  | _ => m_bad
def s_pop (k : Nat) (ls : ML) (st : List MV) (h : MH) : MR := match st with
  | _ :: r => m_nx k ls r h
  | _ => m_bad
def s_if (w t k : Nat) (ls : ML) (st : List MV) (h : MH) : MR := match st with
  | .inl x :: r => .inl (.inl (if m_cnd w x 0 = true then t else k + 1, ls, r, h))
  | _ => m_bad
def s_icmp (w t k : Nat) (ls : ML) (st : List MV) (h : MH) : MR := match st with
  | .inl y :: .inl x :: r => .inl (.inl (if m_cnd w x y = true then t else k + 1, ls, r, h))
  | _ => m_bad
def m_swt (d : Nat) (lo : Int32) (ts : List Nat) (x : Int32) : Nat := if x.toInt < lo.toInt then d else ts.getD (x.toInt - lo.toInt).toNat d
def s_switch (d : Nat) (lo : Int32) (ts : List Nat) (ls : ML) (st : List MV) (h : MH) : MR := match st with
  | .inl x :: r => .inl (.inl (m_swt d lo ts x, ls, r, h))
  | _ => m_bad
def s_getf (ci j k : Nat) (ls : ML) (st : List MV) (h : MH) : MR := match st with
  | .inr (some a) :: r => match m_cell h a with
    | some (.inl (c, fs)) => if c = ci then match fs[j]? with
      | some v => m_nx k ls (v :: r) h
      | none => m_bad else m_bad
    | _ => m_bad
  | _ => m_bad
def s_putf (ci j : Nat) (f : Int32) (k : Nat) (ls : ML) (st : List MV) (h : MH) : MR := match st with
  | v :: .inr (some a) :: r => match m_cell h a with
    | some (.inl (c, fs)) => if c = ci ∧ j < fs.length ∧ m_kind f v = true then m_nx k ls r (h.set a (.inl (c, fs.set j v))) else m_bad
    | _ => m_bad
  | _ => m_bad
def s_iald (S : Nat × (Nat → Int32)) (k : Nat) (ls : ML) (st : List MV) (h : MH) : MR := match st with
  | .inl i :: .inr (some a) :: r => if i < 0 then m_bad else if a = m_scr then (if i.toNatClampNeg < S.1 then m_nx k ls (.inl (S.2 i.toNatClampNeg) :: r) h else m_bad) else match h[a]? with
    | some (.inr (.inl l)) => match l[i.toNatClampNeg]? with
      | some x => m_nx k ls (.inl x :: r) h
      | none => m_bad
    | _ => m_bad
  | _ => m_bad
def s_iast (k : Nat) (ls : ML) (st : List MV) (h : MH) : MR := match st with
  | .inl x :: .inl i :: .inr (some a) :: r => match m_cell h a with
    | some (.inr (.inl l)) => if ¬ i < 0 ∧ i.toNatClampNeg < l.length then m_nx k ls r (h.set a (.inr (.inl (l.set i.toNatClampNeg x)))) else m_bad
    | _ => m_bad
  | _ => m_bad
def s_aald (k : Nat) (ls : ML) (st : List MV) (h : MH) : MR := match st with
  | .inl i :: .inr (some a) :: r => if i < 0 then m_bad else match m_cell h a with
    | some (.inr (.inr (kd, l))) => if kd < 4 ∧ 0 < kd then match l[i.toNatClampNeg]? with
      | some x => m_nx k ls (.inr x :: r) h
      | none => m_bad else m_bad
    | _ => m_bad
  | _ => m_bad
def m_kc (kd : Nat) : Nat := match kd with
  | 1 => 5
  | _ => 3
def s_aast (k : Nat) (ls : ML) (st : List MV) (h : MH) : MR := match st with
  | .inr (some v) :: .inl i :: .inr (some a) :: r => match m_cell h a, m_cell h v with
    | some (.inr (.inr (kd, l))), some (.inl (ci, _)) => if ¬ i < 0 ∧ i.toNatClampNeg < l.length ∧ (kd = 1 ∨ kd = 2) ∧ ci = m_kc kd then m_nx k ls r (h.set a (.inr (.inr (kd, l.set i.toNatClampNeg (some v))))) else m_bad
    | _, _ => m_bad
  | _ => m_bad
def s_alen (S : Nat × (Nat → Int32)) (k : Nat) (ls : ML) (st : List MV) (h : MH) : MR := match st with
  | .inr (some a) :: r => if a = m_scr then m_nx k ls (.inl (Int32.ofNat S.1) :: r) h else m_bad
  | _ => m_bad
def m_cpy (l g : List Int32) (sp dp n : Nat) : List Int32 := (List.range g.length).map fun k => if dp ≤ k ∧ k < dp + n then l.getD (sp + (k - dp)) 0 else g.getD k 0
def s_copy (d k : Nat) (ls : ML) (st : List MV) (h : MH) : MR := match st with
  | .inl n :: .inl dp :: .inr (some b) :: .inl sp :: .inr (some a) :: r => match m_cell h a, m_cell h b with
    | some (.inr (.inl l)), some (.inr (.inl g)) => if ¬ n < 0 ∧ ¬ dp < 0 ∧ ¬ sp < 0 ∧ sp.toNatClampNeg + n.toNatClampNeg ≤ l.length ∧ dp.toNatClampNeg + n.toNatClampNeg ≤ g.length ∧ 1 ≤ d ∧ r.length ≤ 8 then
      m_nx k ls r (h.set b (.inr (.inl (m_cpy l g sp.toNatClampNeg dp.toNatClampNeg n.toNatClampNeg)))) else m_bad
    | _, _ => m_bad
  | _ => m_bad
def s_oin (d k : Nat) (ls : ML) (st : List MV) (h : MH) : MR := match st with
  | .inr (some _) :: r => if 1 ≤ d ∧ r.length ≤ 8 then m_nx k ls r h else m_bad
  | _ => m_bad
def s_mm (w d k : Nat) (ls : ML) (st : List MV) (h : MH) : MR := match st with
  | .inl y :: .inl x :: r => if 1 ≤ d ∧ r.length ≤ 8 then m_nx k ls (.inl (if w = 0 then (if x < y then y else x) else (if y < x then y else x)) :: r) h else m_bad
  | _ => m_bad
