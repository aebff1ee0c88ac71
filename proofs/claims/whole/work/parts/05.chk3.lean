set_option maxRecDepth 20000 in
theorem chk_55 : ∀ m, m < 230 → 229 ≤ m → chkL m 0 (cdO m) = true := by decide +kernel
set_option maxRecDepth 20000 in
theorem chk_56 : ∀ m, m < 232 → 230 ≤ m → chkL m 0 (cdO m) = true := by decide +kernel
set_option maxRecDepth 20000 in
theorem chk_57 : ∀ m, m < 233 → 232 ≤ m → chkL m 0 (cdO m) = true := by decide +kernel
set_option maxRecDepth 20000 in
theorem chk_58 : ∀ m, m < 236 → 233 ≤ m → chkL m 0 (cdO m) = true := by decide +kernel
set_option maxRecDepth 20000 in
theorem chk_59 : ∀ m, m < 237 → 236 ≤ m → chkL m 0 (cdO m) = true := by decide +kernel
set_option maxRecDepth 20000 in
theorem chk_60 : ∀ m, m < 238 → 237 ≤ m → chkL m 0 (cdO m) = true := by decide +kernel
set_option maxRecDepth 20000 in
theorem chk_61 : ∀ m, m < 243 → 238 ≤ m → chkL m 0 (cdO m) = true := by decide +kernel
set_option maxRecDepth 20000 in
theorem chk_62 : ∀ m, m < 246 → 243 ≤ m → chkL m 0 (cdO m) = true := by decide +kernel
set_option maxRecDepth 20000 in
theorem chk_63 : ∀ m, m < 249 → 246 ≤ m → chkL m 0 (cdO m) = true := by decide +kernel
set_option maxRecDepth 20000 in
theorem chk_64 : ∀ m, m < 250 → 249 ≤ m → chkL m 0 (cdO m) = true := by decide +kernel
set_option maxRecDepth 20000 in
theorem chk_65 : ∀ m, m < 251 → 250 ≤ m → chkL m 0 (cdO m) = true := by decide +kernel
set_option maxRecDepth 20000 in
theorem chk_66 : ∀ m, m < 255 → 251 ≤ m → chkL m 0 (cdO m) = true := by decide +kernel
set_option maxRecDepth 20000 in
theorem chk_67 : ∀ m, m < 257 → 255 ≤ m → chkL m 0 (cdO m) = true := by decide +kernel
set_option maxRecDepth 20000 in
theorem chk_68 : ∀ m, m < 258 → 257 ≤ m → chkL m 0 (cdO m) = true := by decide +kernel
set_option maxRecDepth 20000 in
theorem chk_69 : ∀ m, m < 259 → 258 ≤ m → chkL m 0 (cdO m) = true := by decide +kernel
set_option maxRecDepth 20000 in
theorem chk_70 : ∀ m, m < 266 → 259 ≤ m → chkL m 0 (cdO m) = true := by decide +kernel
set_option maxRecDepth 20000 in
theorem chk_71 : ∀ m, m < 271 → 266 ≤ m → chkL m 0 (cdO m) = true := by decide +kernel
set_option maxRecDepth 20000 in
theorem chk_72 : ∀ m, m < 275 → 271 ≤ m → chkL m 0 (cdO m) = true := by decide +kernel
