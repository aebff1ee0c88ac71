set_option maxRecDepth 20000 in
theorem chk_37 : ∀ m, m < 185 → 184 ≤ m → chkL m 0 (cdO m) = true := by decide +kernel
set_option maxRecDepth 20000 in
theorem chk_38 : ∀ m, m < 191 → 185 ≤ m → chkL m 0 (cdO m) = true := by decide +kernel
set_option maxRecDepth 20000 in
theorem chk_39 : ∀ m, m < 192 → 191 ≤ m → chkL m 0 (cdO m) = true := by decide +kernel
set_option maxRecDepth 20000 in
theorem chk_40 : ∀ m, m < 193 → 192 ≤ m → chkL m 0 (cdO m) = true := by decide +kernel
set_option maxRecDepth 20000 in
theorem chk_41 : ∀ m, m < 198 → 193 ≤ m → chkL m 0 (cdO m) = true := by decide +kernel
set_option maxRecDepth 20000 in
theorem chk_42 : ∀ m, m < 202 → 198 ≤ m → chkL m 0 (cdO m) = true := by decide +kernel
set_option maxRecDepth 20000 in
theorem chk_43 : ∀ m, m < 206 → 202 ≤ m → chkL m 0 (cdO m) = true := by decide +kernel
set_option maxRecDepth 20000 in
theorem chk_44 : ∀ m, m < 209 → 206 ≤ m → chkL m 0 (cdO m) = true := by decide +kernel
set_option maxRecDepth 20000 in
theorem chk_45 : ∀ m, m < 210 → 209 ≤ m → chkL m 0 (cdO m) = true := by decide +kernel
set_option maxRecDepth 20000 in
theorem chk_46 : ∀ m, m < 212 → 210 ≤ m → chkL m 0 (cdO m) = true := by decide +kernel
set_option maxRecDepth 20000 in
theorem chk_47 : ∀ m, m < 213 → 212 ≤ m → chkL m 0 (cdO m) = true := by decide +kernel
set_option maxRecDepth 20000 in
theorem chk_48 : ∀ m, m < 215 → 213 ≤ m → chkL m 0 (cdO m) = true := by decide +kernel
set_option maxRecDepth 20000 in
theorem chk_49 : ∀ m, m < 217 → 215 ≤ m → chkL m 0 (cdO m) = true := by decide +kernel
set_option maxRecDepth 20000 in
theorem chk_50 : ∀ m, m < 220 → 217 ≤ m → chkL m 0 (cdO m) = true := by decide +kernel
set_option maxRecDepth 20000 in
theorem chk_51 : ∀ m, m < 222 → 220 ≤ m → chkL m 0 (cdO m) = true := by decide +kernel
set_option maxRecDepth 20000 in
theorem chk_52 : ∀ m, m < 226 → 222 ≤ m → chkL m 0 (cdO m) = true := by decide +kernel
set_option maxRecDepth 20000 in
theorem chk_53 : ∀ m, m < 227 → 226 ≤ m → chkL m 0 (cdO m) = true := by decide +kernel
set_option maxRecDepth 20000 in
theorem chk_54 : ∀ m, m < 230 → 227 ≤ m → chkL m 0 (cdO m) = true := by decide +kernel
