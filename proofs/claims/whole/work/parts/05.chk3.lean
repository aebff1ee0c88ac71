set_option maxRecDepth 20000 in
theorem chk_55 : ∀ m, m < 231 → 230 ≤ m → chkL m 0 (cdO m) = true := by decide +kernel
set_option maxRecDepth 20000 in
theorem chk_56 : ∀ m, m < 233 → 231 ≤ m → chkL m 0 (cdO m) = true := by decide +kernel
set_option maxRecDepth 20000 in
theorem chk_57 : ∀ m, m < 234 → 233 ≤ m → chkL m 0 (cdO m) = true := by decide +kernel
set_option maxRecDepth 20000 in
theorem chk_58 : ∀ m, m < 237 → 234 ≤ m → chkL m 0 (cdO m) = true := by decide +kernel
set_option maxRecDepth 20000 in
theorem chk_59 : ∀ m, m < 238 → 237 ≤ m → chkL m 0 (cdO m) = true := by decide +kernel
set_option maxRecDepth 20000 in
theorem chk_60 : ∀ m, m < 239 → 238 ≤ m → chkL m 0 (cdO m) = true := by decide +kernel
set_option maxRecDepth 20000 in
theorem chk_61 : ∀ m, m < 244 → 239 ≤ m → chkL m 0 (cdO m) = true := by decide +kernel
set_option maxRecDepth 20000 in
theorem chk_62 : ∀ m, m < 247 → 244 ≤ m → chkL m 0 (cdO m) = true := by decide +kernel
set_option maxRecDepth 20000 in
theorem chk_63 : ∀ m, m < 250 → 247 ≤ m → chkL m 0 (cdO m) = true := by decide +kernel
set_option maxRecDepth 20000 in
theorem chk_64 : ∀ m, m < 251 → 250 ≤ m → chkL m 0 (cdO m) = true := by decide +kernel
set_option maxRecDepth 20000 in
theorem chk_65 : ∀ m, m < 252 → 251 ≤ m → chkL m 0 (cdO m) = true := by decide +kernel
set_option maxRecDepth 20000 in
theorem chk_66 : ∀ m, m < 256 → 252 ≤ m → chkL m 0 (cdO m) = true := by decide +kernel
set_option maxRecDepth 20000 in
theorem chk_67 : ∀ m, m < 258 → 256 ≤ m → chkL m 0 (cdO m) = true := by decide +kernel
set_option maxRecDepth 20000 in
theorem chk_68 : ∀ m, m < 259 → 258 ≤ m → chkL m 0 (cdO m) = true := by decide +kernel
set_option maxRecDepth 20000 in
theorem chk_69 : ∀ m, m < 260 → 259 ≤ m → chkL m 0 (cdO m) = true := by decide +kernel
set_option maxRecDepth 20000 in
theorem chk_70 : ∀ m, m < 267 → 260 ≤ m → chkL m 0 (cdO m) = true := by decide +kernel
set_option maxRecDepth 20000 in
theorem chk_71 : ∀ m, m < 272 → 267 ≤ m → chkL m 0 (cdO m) = true := by decide +kernel
set_option maxRecDepth 20000 in
theorem chk_72 : ∀ m, m < 276 → 272 ≤ m → chkL m 0 (cdO m) = true := by decide +kernel
