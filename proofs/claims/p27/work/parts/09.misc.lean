def nnb (x : UInt64) : Bool := decide (x &&& 0x7fffffffffffffff ≤ 0x7ff0000000000000)
theorem nnb_n {x : UInt64} (h : nnb x = true) : vf_n64 x := by
  have h1 : x &&& 0x7fffffffffffffff ≤ 0x7ff0000000000000 := of_decide_eq_true h
  first | exact h1 | (unfold vf_n64; exact h1) | (unfold vf_n64; simpa using h1)
