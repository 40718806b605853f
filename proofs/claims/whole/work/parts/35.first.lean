/-! THE EMPTY SCRIPT: both constructors and the law's end, by evaluation -/
section XAN
set_option maxRecDepth 100000 in
theorem x_first : (match xLaw .null 20000 0 (fun _ => 0) with
  | some (.inl (some (.int x)), ah') => decide (x = 1) && Nat.ble ah'.length 601099
  | _ => false) = true := by decide +kernel
end XAN
