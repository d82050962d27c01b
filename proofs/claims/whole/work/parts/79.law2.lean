set_option maxRecDepth 100000 in
theorem ol_864 : okRg 311 864 48 = true := by decide +kernel
set_option maxRecDepth 100000 in
theorem ol_912 : okRg 311 912 48 = true := by decide +kernel
set_option maxRecDepth 100000 in
theorem ol_960 : okRg 311 960 48 = true := by decide +kernel
set_option maxRecDepth 100000 in
theorem ol_1008 : okRg 311 1008 48 = true := by decide +kernel
set_option maxRecDepth 100000 in
theorem ol_1056 : okRg 311 1056 48 = true := by decide +kernel
set_option maxRecDepth 100000 in
theorem ol_1104 : okRg 311 1104 48 = true := by decide +kernel
set_option maxRecDepth 100000 in
theorem ol_1152 : okRg 311 1152 48 = true := by decide +kernel
set_option maxRecDepth 100000 in
theorem ol_1200 : okRg 311 1200 48 = true := by decide +kernel
set_option maxRecDepth 100000 in
theorem ol_1248 : okRg 311 1248 48 = true := by decide +kernel
set_option maxRecDepth 100000 in
theorem ol_1296 : okRg 311 1296 48 = true := by decide +kernel
set_option maxRecDepth 100000 in
theorem ol_1344 : okRg 311 1344 48 = true := by decide +kernel
set_option maxRecDepth 100000 in
theorem ol_1392 : okRg 311 1392 48 = true := by decide +kernel
set_option maxRecDepth 100000 in
theorem ol_1440 : okRg 311 1440 48 = true := by decide +kernel
set_option maxRecDepth 100000 in
theorem ol_1488 : okRg 311 1488 48 = true := by decide +kernel
set_option maxRecDepth 100000 in
theorem ol_1536 : okRg 311 1536 48 = true := by decide +kernel
set_option maxRecDepth 100000 in
theorem ol_1584 : okRg 311 1584 48 = true := by decide +kernel
set_option maxRecDepth 100000 in
theorem ol_1632 : okRg 311 1632 48 = true := by decide +kernel
set_option maxRecDepth 100000 in
theorem ol_1680 : okRg 311 1680 40 = true := by decide +kernel
