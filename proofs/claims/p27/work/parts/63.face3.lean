/-! undo -/
/-! the buffer -/
/-! a text's orders are done -/
