/-! the call gap -/
def gpV (v : Nat → Int32) : Nat × Nat × Nat := gpN (fun f => decide (how (lyV v (-5)) (TOT v) f = 3)) (TOT v)
theorem E6.gp {u v : Nat → Int32} (e : E6 u v) (c : WC v) : gpV u = gpV v := by
  unfold gpV
  rw [(e.lk c).tot, (e.lk c).ly]
