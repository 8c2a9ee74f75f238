def wA : XW := xpush w00 15 (xo 7 [.null, .null, .null, .null, .null, .null, .null, .null, .null, .null, .null, .int 0, .null, .null, .null])
theorem ev_class : (match fX7_init wA 0 with | some q => decide (q.1 = 72) && (List.range 72).all (fun k => ceqb (q.2.2 k) (WN.2.2 k)) | none => false) = true := by decide +kernel
