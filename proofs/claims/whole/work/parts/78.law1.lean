set_option maxRecDepth 100000 in
theorem ol_0 : okRg 311 0 48 = true := by decide +kernel
set_option maxRecDepth 100000 in
theorem ol_48 : okRg 311 48 48 = true := by decide +kernel
set_option maxRecDepth 100000 in
theorem ol_96 : okRg 311 96 48 = true := by decide +kernel
set_option maxRecDepth 100000 in
theorem ol_144 : okRg 311 144 48 = true := by decide +kernel
set_option maxRecDepth 100000 in
theorem ol_192 : okRg 311 192 48 = true := by decide +kernel
set_option maxRecDepth 100000 in
theorem ol_240 : okRg 311 240 48 = true := by decide +kernel
set_option maxRecDepth 100000 in
theorem ol_288 : okRg 311 288 48 = true := by decide +kernel
set_option maxRecDepth 100000 in
theorem ol_336 : okRg 311 336 48 = true := by decide +kernel
set_option maxRecDepth 100000 in
theorem ol_384 : okRg 311 384 48 = true := by decide +kernel
set_option maxRecDepth 100000 in
theorem ol_432 : okRg 311 432 48 = true := by decide +kernel
set_option maxRecDepth 100000 in
theorem ol_480 : okRg 311 480 48 = true := by decide +kernel
set_option maxRecDepth 100000 in
theorem ol_528 : okRg 311 528 48 = true := by decide +kernel
set_option maxRecDepth 100000 in
theorem ol_576 : okRg 311 576 48 = true := by decide +kernel
set_option maxRecDepth 100000 in
theorem ol_624 : okRg 311 624 48 = true := by decide +kernel
set_option maxRecDepth 100000 in
theorem ol_672 : okRg 311 672 48 = true := by decide +kernel
set_option maxRecDepth 100000 in
theorem ol_720 : okRg 311 720 48 = true := by decide +kernel
set_option maxRecDepth 100000 in
theorem ol_768 : okRg 311 768 48 = true := by decide +kernel
set_option maxRecDepth 100000 in
theorem ol_816 : okRg 311 816 48 = true := by decide +kernel
