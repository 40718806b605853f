/-! compiled, with pages of 5 lines -/
section YRC
set_option maxRecDepth 1000000 in
theorem zck2_5_n : zck2 .null 5 = true := by decide +kernel
end YRC
