/-! ===== the library's laws of floats are wanted behind this: named once here, so that a round takes the whole library from its first part on ===== -/
theorem wide_here : Jvm.FP.Core.Good Jvm.FP.Core.b64 := Jvm.FP.Core.good_b64
