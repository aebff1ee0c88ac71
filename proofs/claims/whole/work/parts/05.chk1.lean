set_option maxRecDepth 20000 in
theorem chk_19 : ∀ m, m < 106 → 101 ≤ m → chkL m 0 (cdO m) = true := by decide +kernel
set_option maxRecDepth 20000 in
theorem chk_20 : ∀ m, m < 108 → 106 ≤ m → chkL m 0 (cdO m) = true := by decide +kernel
set_option maxRecDepth 20000 in
theorem chk_21 : ∀ m, m < 112 → 108 ≤ m → chkL m 0 (cdO m) = true := by decide +kernel
set_option maxRecDepth 20000 in
theorem chk_22 : ∀ m, m < 119 → 112 ≤ m → chkL m 0 (cdO m) = true := by decide +kernel
set_option maxRecDepth 20000 in
theorem chk_23 : ∀ m, m < 125 → 119 ≤ m → chkL m 0 (cdO m) = true := by decide +kernel
set_option maxRecDepth 20000 in
theorem chk_24 : ∀ m, m < 126 → 125 ≤ m → chkL m 0 (cdO m) = true := by decide +kernel
set_option maxRecDepth 20000 in
theorem chk_25 : ∀ m, m < 130 → 126 ≤ m → chkL m 0 (cdO m) = true := by decide +kernel
set_option maxRecDepth 20000 in
theorem chk_26 : ∀ m, m < 139 → 130 ≤ m → chkL m 0 (cdO m) = true := by decide +kernel
set_option maxRecDepth 20000 in
theorem chk_27 : ∀ m, m < 142 → 139 ≤ m → chkL m 0 (cdO m) = true := by decide +kernel
set_option maxRecDepth 20000 in
theorem chk_28 : ∀ m, m < 145 → 142 ≤ m → chkL m 0 (cdO m) = true := by decide +kernel
set_option maxRecDepth 20000 in
theorem chk_29 : ∀ m, m < 153 → 145 ≤ m → chkL m 0 (cdO m) = true := by decide +kernel
set_option maxRecDepth 20000 in
theorem chk_30 : ∀ m, m < 160 → 153 ≤ m → chkL m 0 (cdO m) = true := by decide +kernel
set_option maxRecDepth 20000 in
theorem chk_31 : ∀ m, m < 164 → 160 ≤ m → chkL m 0 (cdO m) = true := by decide +kernel
set_option maxRecDepth 20000 in
theorem chk_32 : ∀ m, m < 168 → 164 ≤ m → chkL m 0 (cdO m) = true := by decide +kernel
set_option maxRecDepth 20000 in
theorem chk_33 : ∀ m, m < 171 → 168 ≤ m → chkL m 0 (cdO m) = true := by decide +kernel
set_option maxRecDepth 20000 in
theorem chk_34 : ∀ m, m < 178 → 171 ≤ m → chkL m 0 (cdO m) = true := by decide +kernel
set_option maxRecDepth 20000 in
theorem chk_35 : ∀ m, m < 182 → 178 ≤ m → chkL m 0 (cdO m) = true := by decide +kernel
set_option maxRecDepth 20000 in
theorem chk_36 : ∀ m, m < 184 → 182 ≤ m → chkL m 0 (cdO m) = true := by decide +kernel
