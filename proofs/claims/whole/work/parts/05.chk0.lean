set_option maxRecDepth 20000 in
theorem chk_0 : ∀ m, m < 1 → 0 ≤ m → chkL m 0 (cdO m) = true := by decide +kernel
set_option maxRecDepth 20000 in
theorem chk_1 : ∀ m, m < 5 → 1 ≤ m → chkL m 0 (cdO m) = true := by decide +kernel
set_option maxRecDepth 20000 in
theorem chk_2 : ∀ m, m < 16 → 5 ≤ m → chkL m 0 (cdO m) = true := by decide +kernel
set_option maxRecDepth 20000 in
theorem chk_3 : ∀ m, m < 24 → 16 ≤ m → chkL m 0 (cdO m) = true := by decide +kernel
set_option maxRecDepth 20000 in
theorem chk_4 : ∀ m, m < 31 → 24 ≤ m → chkL m 0 (cdO m) = true := by decide +kernel
set_option maxRecDepth 20000 in
theorem chk_5 : ∀ m, m < 39 → 31 ≤ m → chkL m 0 (cdO m) = true := by decide +kernel
set_option maxRecDepth 20000 in
theorem chk_6 : ∀ m, m < 49 → 39 ≤ m → chkL m 0 (cdO m) = true := by decide +kernel
set_option maxRecDepth 20000 in
theorem chk_7 : ∀ m, m < 55 → 49 ≤ m → chkL m 0 (cdO m) = true := by decide +kernel
set_option maxRecDepth 20000 in
theorem chk_8 : ∀ m, m < 62 → 55 ≤ m → chkL m 0 (cdO m) = true := by decide +kernel
set_option maxRecDepth 20000 in
theorem chk_9 : ∀ m, m < 68 → 62 ≤ m → chkL m 0 (cdO m) = true := by decide +kernel
set_option maxRecDepth 20000 in
theorem chk_10 : ∀ m, m < 71 → 68 ≤ m → chkL m 0 (cdO m) = true := by decide +kernel
set_option maxRecDepth 20000 in
theorem chk_11 : ∀ m, m < 75 → 71 ≤ m → chkL m 0 (cdO m) = true := by decide +kernel
set_option maxRecDepth 20000 in
theorem chk_12 : ∀ m, m < 80 → 75 ≤ m → chkL m 0 (cdO m) = true := by decide +kernel
set_option maxRecDepth 20000 in
theorem chk_13 : ∀ m, m < 84 → 80 ≤ m → chkL m 0 (cdO m) = true := by decide +kernel
set_option maxRecDepth 20000 in
theorem chk_14 : ∀ m, m < 88 → 84 ≤ m → chkL m 0 (cdO m) = true := by decide +kernel
set_option maxRecDepth 20000 in
theorem chk_15 : ∀ m, m < 91 → 88 ≤ m → chkL m 0 (cdO m) = true := by decide +kernel
set_option maxRecDepth 20000 in
theorem chk_16 : ∀ m, m < 94 → 91 ≤ m → chkL m 0 (cdO m) = true := by decide +kernel
set_option maxRecDepth 20000 in
theorem chk_17 : ∀ m, m < 97 → 94 ≤ m → chkL m 0 (cdO m) = true := by decide +kernel
set_option maxRecDepth 20000 in
theorem chk_18 : ∀ m, m < 101 → 97 ≤ m → chkL m 0 (cdO m) = true := by decide +kernel
