theorem bt_all : ∀ t, t < 10 → ∀ v, v < 1024 → (nI v >>> (nI t &&& 31)) &&& 1 = (if v.testBit t then 1 else 0 : Int32) := by
  decide +kernel
