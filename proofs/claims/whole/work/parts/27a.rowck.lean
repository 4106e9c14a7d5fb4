/-! a row's check -/
def m_rck (init : Bool) (c : Nat) (q : Nat × mRow) : Bool := match q.2.1 with
  | .getfield idx => (m_FLt.getD c []).any (fun r => r.1 == idx && q.2.2.2 == [r.2.1, r.2.2.1, r.2.2.2.1])
  | .putfield idx => (m_FLt.getD c []).any (fun r => r.1 == idx && (q.2.2.2 == [r.2.1, r.2.2.1, r.2.2.2.1] && (r.2.2.2.2.1 == 0 || (init && r.2.1 == c))))
  | .new idx => match q.2.2.2 with
    | [0, ci] => (m_NLt.getD c []).any (fun r => r.1 == idx && r.2.1 == ci)
    | [1, _] => true
    | _ => false
  | .ldc idx => match q.2.2.2 with
    | [k, v] => k != 2 && (m_CLt.getD c []).any (fun r => r.1 == idx && (r.2.1 == k && r.2.2.1 == v))
    | _ => false
  | .ldc_w idx => match q.2.2.2 with
    | [k, v] => k != 2 && (m_CLt.getD c []).any (fun r => r.1 == idx && (r.2.1 == k && r.2.2.1 == v))
    | _ => false
  | .ldc2_w idx => match q.2.2.2 with
    | [2, v] => (m_CLt.getD c []).any (fun r => r.1 == idx && (r.2.1 == 2 && r.2.2.1 == v))
    | _ => false
  | .invokevirtual idx => match q.2.2.2 with
    | [_] => true
    | [mi, na, kd] => (m_MLt.getD c []).any (fun r => r.1 == idx && (r.2.1 == 0 && (r.2.2.1 == mi && (r.2.2.2.1 == na && r.2.2.2.2.1 == kd))))
    | _ => false
  | .invokestatic idx => match q.2.2.2 with
    | [_] => true
    | [mi, na, kd] => (m_MLt.getD c []).any (fun r => r.1 == idx && (r.2.1 == 1 && (r.2.2.1 == mi && (r.2.2.2.1 == na && r.2.2.2.2.1 == kd))))
    | _ => false
  | .invokespecial idx => match q.2.2.2 with
    | [] => (m_OLt.getD c []).any (fun r => r.1 == idx)
    | [mi, na, kd] => (m_MLt.getD c []).any (fun r => r.1 == idx && (r.2.1 == 2 && (r.2.2.1 == mi && (r.2.2.2.1 == na && r.2.2.2.2.1 == kd))))
    | _ => false
  | _ => true
def m_dck (bytes : ByteArray) (q : Nat × mRow) : Bool := decide (decode bytes q.1 = .ok (q.2.1, q.2.2.1)) && (m_sw q.2.1 || q.2.2.1 == m_len q.2.1)
def m_mck (c : Nat) (M : mM) (rs : List (Nat × mRow)) : Bool := decide ((m_My M).cls = m_own c) && rs.all (fun q => m_dck (m_Mb M) q && m_rck ((m_My M).name == "<init>") c q)
def m_rok2 (c : Nat) (M : mM) (q : Nat × mRow) : Bool := m_dck (m_Mb M) q && m_rck ((m_My M).name == "<init>") c q
