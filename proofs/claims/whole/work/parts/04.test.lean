set_option maxRecDepth 100000 in
theorem tst1 : ((xrun [] 20000 30 92 0 (xloc 92 [.ref 0]) [] [(11, xdef 11)]).map (fun q => q.2.length)) = some 132 := by decide +kernel
