/-! what a program decides of the tables: each numbered instruction is the decoded one, its words stand in the tables -/
def m_in (i : Nat) (w : Cond) : Bool := decide (lw_tbl[i]? = some w) && goodWord w
def m_inN (i : Nat) (w : Cond) : Bool := decide (lw_tbl[i]? = some w) && m_nest w
def m_C (ci : Nat) : vw_C := m_cl.getD ci ("", m_T0, 0)
def m_y (y : Nat) : MethodName := m_ys.getD y ⟨"", "", ""⟩
def m_bs (y : Nat) : ByteArray := m_bss.getD y ⟨#[]⟩
def m_wi (y j : Nat) : Nat := (m_wis.getD y []).getD j 0
def m_rt (y : Nat) : Option FieldType := match m_rk y with
  | 0 => none
  | 1 => some .int
  | _ => some .boolean
def k_push (own : String) (bs : ByteArray) (pc nx w : Nat) (v : Int32) : Bool := match decode bs pc with
  | .ok (.iconst n, 1) => decide (Int32.ofInt n = v) && decide (pc + 1 = nx)
  | .ok (.bipush n, 2) => decide ((Int8.ofInt n).toInt32 = v) && decide (pc + 2 = nx)
  | .ok (.sipush n, 3) => decide ((Int16.ofInt n).toInt32 = v) && decide (pc + 3 = nx)
  | .ok (.ldc j, 2) => m_in w (.constant own j v) && decide (pc + 2 = nx)
  | .ok (.ldc_w j, 3) => m_in w (.constant own j v) && decide (pc + 3 = nx)
  | _ => false
def k_load (bs : ByteArray) (pc nx a : Nat) (f : Int32) : Bool := match decode bs pc with
  | .ok (.iload n, 2) => decide (n = a) && decide (f = 0) && decide (pc + 2 = nx)
  | .ok (.iload_n n, 1) => decide ((n : Nat) = a) && decide (f = 0) && decide (pc + 1 = nx)
  | .ok (.aload n, 2) => decide (n = a) && decide (f = 1) && decide (pc + 2 = nx)
  | .ok (.aload_n n, 1) => decide ((n : Nat) = a) && decide (f = 1) && decide (pc + 1 = nx)
  | _ => false
def k_store (bs : ByteArray) (pc nx a : Nat) (f : Int32) : Bool := match decode bs pc with
  | .ok (.istore n, 2) => decide (n = a) && decide (f = 0) && decide (pc + 2 = nx)
  | .ok (.istore_n n, 1) => decide ((n : Nat) = a) && decide (f = 0) && decide (pc + 1 = nx)
  | .ok (.astore n, 2) => decide (n = a) && decide (f = 1) && decide (pc + 2 = nx)
  | .ok (.astore_n n, 1) => decide ((n : Nat) = a) && decide (f = 1) && decide (pc + 1 = nx)
  | _ => false
def k_iinc (bs : ByteArray) (pc nx a : Nat) (v : Int32) : Bool := match decode bs pc with
  | .ok (.iinc n z, 3) => decide (n = a) && decide (Int32.ofInt z = v) && decide (pc + 3 = nx)
  | _ => false
def k_bin (bs : ByteArray) (pc nx w : Nat) : Bool := decide (pc + 1 = nx) && match decode bs pc with
  | .ok (.iadd, 1) => decide (w = 0)
  | .ok (.isub, 1) => decide (w = 1)
  | .ok (.imul, 1) => decide (w = 2)
  | .ok (.iand, 1) => decide (w = 3)
  | .ok (.ior, 1) => decide (w = 4)
  | .ok (.ixor, 1) => decide (w = 5)
  | .ok (.ishl, 1) => decide (w = 6)
  | .ok (.ishr, 1) => decide (w = 7)
  | .ok (.iushr, 1) => decide (w = 8)
  | _ => false
def k_un (bs : ByteArray) (pc nx w : Nat) : Bool := decide (pc + 1 = nx) && match decode bs pc with
  | .ok (.ineg, 1) => decide (w = 0)
  | .ok (.i2b, 1) => decide (w = 1)
  | .ok (.i2s, 1) => decide (w = 2)
  | _ => false
def k_if (bs : ByteArray) (pc nx w tg : Nat) : Bool := decide (pc + 3 = nx) && match decode bs pc with
  | .ok (.ifCond .eq o, 3) => decide (w = 0) && decide ((pc : Int) + o = (tg : Int))
  | .ok (.ifCond .ne o, 3) => decide (w = 1) && decide ((pc : Int) + o = (tg : Int))
  | .ok (.ifCond .lt o, 3) => decide (w = 2) && decide ((pc : Int) + o = (tg : Int))
  | .ok (.ifCond .ge o, 3) => decide (w = 3) && decide ((pc : Int) + o = (tg : Int))
  | .ok (.ifCond .gt o, 3) => decide (w = 4) && decide ((pc : Int) + o = (tg : Int))
  | .ok (.ifCond .le o, 3) => decide (w = 5) && decide ((pc : Int) + o = (tg : Int))
  | _ => false
def k_icmp (bs : ByteArray) (pc nx w tg : Nat) : Bool := decide (pc + 3 = nx) && match decode bs pc with
  | .ok (.if_icmp .eq o, 3) => decide (w = 0) && decide ((pc : Int) + o = (tg : Int))
  | .ok (.if_icmp .ne o, 3) => decide (w = 1) && decide ((pc : Int) + o = (tg : Int))
  | .ok (.if_icmp .lt o, 3) => decide (w = 2) && decide ((pc : Int) + o = (tg : Int))
  | .ok (.if_icmp .ge o, 3) => decide (w = 3) && decide ((pc : Int) + o = (tg : Int))
  | .ok (.if_icmp .gt o, 3) => decide (w = 4) && decide ((pc : Int) + o = (tg : Int))
  | .ok (.if_icmp .le o, 3) => decide (w = 5) && decide ((pc : Int) + o = (tg : Int))
  | _ => false
def k_goto (bs : ByteArray) (pc tg : Nat) : Bool := match decode bs pc with
  | .ok (.goto o, 3) => decide ((pc : Int) + o = (tg : Int))
  | _ => false
def k_switch (bs : ByteArray) (pc : Nat) (tg : Nat → Nat) (d : Nat) (lo : Int32) (ts : List Nat) : Bool := match decode bs pc with
  | .ok (.tableswitch df l hi os, _) => decide (l = lo.toInt) && decide ((pc : Int) + df = (tg d : Int)) && decide (os.toList.map (fun o => (pc : Int) + o) = ts.map (fun t => (tg t : Int))) && decide (hi - l + 1 = (ts.length : Int))
  | _ => false
def k_getf (own : String) (bs : ByteArray) (pc nx w fl ci j : Nat) : Bool := decide (pc + 3 = nx) && decide (ci < 8) && decide (j < (m_C ci).2.2) && match decode bs pc with
  | .ok (.getfield z, 3) => if fl = 0 then m_in w (.fieldLink own z (m_C ci).1 ((m_C ci).2.1 j).2.1 ((m_C ci).2.1 j).2.2.1) else m_inN w (.fieldLinkNest own z (m_C ci).1 ((m_C ci).2.1 j).2.1 ((m_C ci).2.1 j).2.2.1 "LessonSpiral")
  | _ => false
def m_ty (ci j : Nat) : FieldType := (m_ct.getD ci m_t0) j
def k_putf (own nm : String) (bs : ByteArray) (pc nx w ci j : Nat) (f : Int32) : Bool := decide (pc + 3 = nx) && decide (ci < 8) && decide (j < (m_C ci).2.2) && (if f = 0 then decide (m_ty ci j = .int) else (m_ty ci j).isReference) && (!((m_C ci).2.1 j).2.2.2 || (decide (nm = "<init>") && decide ((m_C ci).1 = own))) && match decode bs pc with
  | .ok (.putfield z, 3) => m_in w (.fieldLink own z (m_C ci).1 ((m_C ci).2.1 j).2.1 ((m_C ci).2.1 j).2.2.1)
  | _ => false
def k_new (own : String) (bs : ByteArray) (pc nx w0 w1 w2 ci : Nat) : Bool := decide (pc + 3 = nx) && decide (ci < 8) && match decode bs pc with
  | .ok (.new z, 3) => m_in w0 (.classLink own z (m_C ci).1) && m_in w1 (.instantiable (m_C ci).1 (m_C ci).2.2) && m_in w2 (.initialized (m_C ci).1)
  | _ => false
def k_newa (bs : ByteArray) (pc nx : Nat) : Bool := decide (pc + 2 = nx) && m_in 77 (.arrayClass .int) && match decode bs pc with
  | .ok (.newarray t, 2) => decide (newarray.typeOf t = .int)
  | _ => false
def m_kn (kd : Nat) : String := if kd = 1 then "LessonSpiral$Sheet" else "LessonSpiral$Place"
def k_newq (own : String) (bs : ByteArray) (pc nx w kd : Nat) : Bool := decide (pc + 3 = nx) && decide (lw_tbl[if kd = 1 then 195 else 95]? = some (.arrayOver (.object (m_kn kd)))) && match decode bs pc with
  | .ok (.anewarray z, 3) => m_in w (.classLink own z (m_kn kd))
  | _ => false
def k_multi (own : String) (bs : ByteArray) (pc nx w : Nat) : Bool := decide (pc + 4 = nx) && m_in 77 (.arrayClass .int) && decide (lw_tbl[183]? = some (.arrayOver (.array .int))) && match decode bs pc with
  | .ok (.multianewarray z 2, 4) => m_in w (.classLink own z ("[" ++ (FieldType.array .int).toString))
  | _ => false
/-- what is known of a callee: fl 0 static, 1 <init>, 2 of an object; n its operands with the receiver -/
def k_meth (y n fl ci : Nat) : Bool := decide (0 < y) && decide (y < 176) && decide (m_wi y 4 = fl) && m_in (m_wi y 0) (.code (m_y y) (m_bs y) (m_mL y) (m_rt y)) && m_in (m_wi y 1) (.initialized (m_y y).cls) && decide ((m_y y).cls ≠ "java/lang/invoke/MethodHandle") && decide ((m_y y).cls ≠ "java/lang/invoke/VarHandle") && plainName (m_y y).cls && decide (m_mL y ≤ 40) && decide (n ≤ m_mL y) && decide ((m_rk y) < 3) &&
  (if fl = 0 then m_in (m_wi y 2) (.static (m_y y)) && decide ((parseMethodDescriptor (m_y y).desc).map (fun q => q.parameters.length) = some n) else
    m_in (m_wi y 2) (.instanceMethod (m_y y)) && decide (ci < 8) && decide ((m_C ci).1 = (m_y y).cls) && decide (0 < n) && decide ((parseMethodDescriptor (m_y y).desc).map (fun q => q.parameters.length) = some (n - 1)) && (if fl = 1 then decide ((m_y y).name = "<init>") && decide (m_rk y = 0) else m_in (m_wi y 3) (.selects (m_y y).cls (m_y y) (m_y y))))
def k_call (own : String) (bs : ByteArray) (pc nx w y n ci : Nat) : Bool := decide (pc + 3 = nx) && k_meth y n 2 ci && match decode bs pc with
  | .ok (.invokevirtual z, 3) => m_in w (.methodLink own z (m_y y))
  | _ => false
def k_spec (own : String) (bs : ByteArray) (pc nx w y n ci : Nat) : Bool := decide (pc + 3 = nx) && k_meth y n 1 ci && match decode bs pc with
  | .ok (.invokespecial z, 3) => m_in w (.methodLink own z (m_y y))
  | _ => false
def k_stat (own : String) (bs : ByteArray) (pc nx w fl y n : Nat) : Bool := decide (pc + 3 = nx) && k_meth y n 0 0 && match decode bs pc with
  | .ok (.invokestatic z, 3) => if fl = 0 then m_in w (.methodLink own z (m_y y)) else m_inN w (.methodLinkNest own z (m_y y) "LessonSpiral")
  | _ => false
def k_oin (own : String) (bs : ByteArray) (pc nx w : Nat) : Bool := decide (pc + 3 = nx) && m_in 65 (.instanceMethod Lib.objectInit) && m_in 66 (.code Lib.objectInit ⟨#[0xb1]⟩ 1 none) && match decode bs pc with
  | .ok (.invokespecial z, 3) => m_in w (.methodLink own z Lib.objectInit)
  | _ => false
def k_copy (own : String) (bs : ByteArray) (pc nx w : Nat) : Bool := decide (pc + 3 = nx) && m_in 257 (.native arraycopyName) && m_in 256 (.static arraycopyName) && m_in 56 (.initialized "java/lang/System") && match decode bs pc with
  | .ok (.invokestatic z, 3) => m_in w (.methodLink own z arraycopyName)
  | _ => false
def k_max (own : String) (bs : ByteArray) (pc nx w : Nat) : Bool := decide (pc + 3 = nx) && m_in 566 (.static Lib.Math.max.name) && m_in 57 (.initialized "java/lang/Math") && m_in 567 (.code Lib.Math.max.name Lib.Math.max.code 2 (some .int)) && match decode bs pc with
  | .ok (.invokestatic z, 3) => m_in w (.methodLink own z Lib.Math.max.name)
  | _ => false
def k_min (own : String) (bs : ByteArray) (pc nx w : Nat) : Bool := decide (pc + 3 = nx) && m_in 259 (.static Lib.Math.min.name) && m_in 57 (.initialized "java/lang/Math") && m_in 260 (.code Lib.Math.min.name Lib.Math.min.code 2 (some .int)) && match decode bs pc with
  | .ok (.invokestatic z, 3) => m_in w (.methodLink own z Lib.Math.min.name)
  | _ => false
def k_one (bs : ByteArray) (pc nx : Nat) (i : Instr) : Bool := decide (pc + 1 = nx) && decide (decode bs pc = .ok (i, 1))
def k_ret (bs : ByteArray) (pc op : Nat) : Bool := if op = 27 then decide (decode bs pc = .ok (.ireturn, 1)) else decide (decode bs pc = .ok (.return_, 1))
def m_dk (own nm : String) (bs : ByteArray) (pc nx : Nat) (tg : Nat → Nat) (ws : List Nat) (i : MI) : Bool := match i.1 with
  | 0 => k_push own bs pc nx (ws.getD 0 0) i.2.2.2.1
  | 1 => k_load bs pc nx i.2.1 i.2.2.2.1
  | 2 => k_store bs pc nx i.2.1 i.2.2.2.1
  | 3 => k_iinc bs pc nx i.2.1 i.2.2.2.1
  | 4 => k_bin bs pc nx i.2.1
  | 5 => k_un bs pc nx i.2.1
  | 6 => k_one bs pc nx .dup
  | 7 => k_one bs pc nx .dup2
  | 8 => k_one bs pc nx .pop
  | 9 => k_if bs pc nx i.2.1 (tg i.2.2.1)
  | 10 => k_icmp bs pc nx i.2.1 (tg i.2.2.1)
  | 11 => k_goto bs pc (tg i.2.2.1)
  | 12 => k_switch bs pc tg i.2.2.1 i.2.2.2.1 i.2.2.2.2
  | 13 => k_getf own bs pc nx (ws.getD 0 0) (ws.getD 1 0) i.2.1 i.2.2.1
  | 14 => k_putf own nm bs pc nx (ws.getD 0 0) i.2.1 i.2.2.1 i.2.2.2.1
  | 15 => k_one bs pc nx .iaload
  | 16 => k_one bs pc nx .iastore
  | 17 => k_one bs pc nx .aaload
  | 18 => k_one bs pc nx .aastore
  | 19 => k_one bs pc nx .arraylength
  | 20 => k_new own bs pc nx (ws.getD 0 0) (ws.getD 1 0) (ws.getD 2 0) i.2.1
  | 21 => k_newa bs pc nx
  | 22 => k_newq own bs pc nx (ws.getD 0 0) i.2.1
  | 23 => k_multi own bs pc nx (ws.getD 0 0)
  | 24 => k_call own bs pc nx (ws.getD 0 0) i.2.1 i.2.2.1 (i.2.2.2.2.getD 0 0)
  | 25 => k_oin own bs pc nx (ws.getD 0 0)
  | 26 => k_copy own bs pc nx (ws.getD 0 0)
  | 27 => k_ret bs pc 27
  | 28 => k_ret bs pc 28
  | 29 => k_stat own bs pc nx (ws.getD 0 0) (ws.getD 1 0) i.2.1 i.2.2.1
  | 30 => k_spec own bs pc nx (ws.getD 0 0) i.2.1 i.2.2.1 (i.2.2.2.2.getD 0 0)
  | 31 => k_max own bs pc nx (ws.getD 0 0)
  | 32 => k_min own bs pc nx (ws.getD 0 0)
  | _ => false
def m_pcl (y : Nat) : List (Nat × List Nat) := m_pcs.getD y []
def m_pc (y k : Nat) : Nat := ((m_pcl y).getD k (0, [])).1
def m_ck (y k : Nat) : Bool := m_dk (m_y y).cls (m_y y).name (m_bs y) (m_pc y k) (m_pc y (k + 1)) (m_pc y) ((m_pcl y).getD k (0, [])).2 ((m_code y).getD k (99, 0, 0, 0, []))
def m_cr (y lo n : Nat) : Bool := (List.range n).all fun j => m_ck y (lo + j)
theorem m_cr_ok {y lo n k : Nat} (h : m_cr y lo n = true) (h1 : lo ≤ k) (h2 : k < lo + n) : m_ck y k = true := by
  have := List.all_eq_true.mp h (k - lo) (List.mem_range.mpr (by omega))
  rwa [show lo + (k - lo) = k by omega] at this
def m_dv (v : MV) : Value := match v with
  | .inl x => .int x
  | .inr _ => .null
def m_clsok : Bool := (List.range 8).all fun ci => decide ((m_def.getD ci []).length = (m_C ci).2.2) && (List.range (m_C ci).2.2).all fun k => m_in ((m_lay.getD ci []).getD k 0) (u_lay (m_C ci).1 (m_C ci).2.1 k) && decide (parseFieldDescriptor ((m_C ci).2.1 k).2.2.1 = some (m_ty ci k)) && decide (((m_C ci).2.1 k).1 = (m_C ci).1) &&
  decide (defaultValue (m_ty ci k) = m_dv ((m_def.getD ci []).getD k (.inr none))) && decide ((m_def.getD ci []).getD k (.inr none) = .inl 0 ∨ (m_def.getD ci []).getD k (.inr none) = .inr none) && (List.range (m_C ci).2.2).all fun j => decide (j = k) || decide (((m_C ci).2.1 j).2.1 ≠ ((m_C ci).2.1 k).2.1)
theorem m_clsok_ok : m_clsok = true := by decide +kernel
