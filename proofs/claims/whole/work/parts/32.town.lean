/-! The told town. -/
abbrev mo_Tn : Type := (Nat → Nat) × (Nat → Nat → Nat) × (Nat → Nat → Int32) × (Nat → Nat → Nat)
def tMen (T : mo_Tn) : Nat := T.1 0
def tNames (T : mo_Tn) : Nat := T.1 1
def tComs (T : mo_Tn) : Nat := T.1 2
def tBrs (T : mo_Tn) : Nat := T.1 3
def tOws (T : mo_Tn) : Nat := T.1 4
def tTd (T : mo_Tn) : Nat := T.1 5
def tSts (T : mo_Tn) : Nat := T.1 6
def tOwn (T : mo_Tn) (m : Nat) : Nat := T.2.1 0 m
def tPurse (T : mo_Tn) (m : Nat) : Int32 := T.2.2.1 1 m
def tFoes (T : mo_Tn) (m : Nat) : Int32 := T.2.2.1 2 m
def tCm (T : mo_Tn) (m : Nat) : Nat := T.2.1 3 m
def tCd (T : mo_Tn) (m : Nat) : Nat := T.2.1 4 m
def tCi (T : mo_Tn) (m : Nat) : Nat := T.2.1 5 m
def tCo (T : mo_Tn) (m : Nat) : Nat := T.2.1 6 m
def tGn (T : mo_Tn) (m : Nat) : Nat := T.2.1 7 m
def tGd (T : mo_Tn) (m : Nat) : Nat := T.2.1 8 m
def tGa (T : mo_Tn) (m : Nat) : Int32 := T.2.2.1 9 m
def tGk (T : mo_Tn) (m : Nat) : Nat := T.2.1 10 m
def tGo (T : mo_Tn) (m : Nat) : Nat := T.2.1 11 m
def tOf (T : mo_Tn) (m : Nat) : Nat := T.2.1 12 m
def tOt (T : mo_Tn) (m : Nat) : Nat := T.2.1 13 m
def tOd (T : mo_Tn) (m : Nat) : Nat := T.2.1 14 m
def tOs (T : mo_Tn) (m : Nat) : Nat := T.2.1 15 m
def tSn (T : mo_Tn) (m : Nat) : Nat := T.2.1 16 m
def tSi (T : mo_Tn) (m : Nat) : Int32 := T.2.2.1 17 m
def tSs (T : mo_Tn) (m : Nat) : Int32 := T.2.2.1 18 m
/-- by day and man: the name given, and one more; 0: none -/
def tGv (T : mo_Tn) (d m : Nat) : Nat := T.2.2.2 d m
/-- what its numbers are bounded by -/
def mo_vT (T : mo_Tn) : Prop := tMen T ≤ 8 ∧ tNames T ≤ 12 ∧ tComs T ≤ 40 ∧ tBrs T ≤ 40 ∧ tOws T ≤ 40 ∧ tTd T < 30 ∧ tSts T ≤ 16 ∧ (∀ m, m < tMen T → tOwn T m < tNames T) ∧ (∀ m, m < tComs T → tCm T m < tMen T) ∧ (∀ m, m < tComs T → tCd T m < 30) ∧ (∀ m, m < tComs T → tCi T m ≤ tCo T m) ∧ (∀ m, m < tComs T → tCo T m < 100) ∧ (∀ m, m < tBrs T → tGn T m < tNames T) ∧ (∀ m, m < tBrs T → tGd T m < 30) ∧ (∀ m, m < tBrs T → tGk T m ≤ tGo T m) ∧ (∀ m, m < tBrs T → 1 ≤ tGo T m ∧ tGo T m ≤ 12) ∧ (∀ m, m < tOws T → tOf T m < tNames T) ∧ (∀ m, m < tOws T → tOt T m < tNames T) ∧ (∀ m, m < tOws T → tOd T m < 30) ∧ (∀ m, m < tOws T → tOs T m ≤ 99) ∧ (∀ m, m < tSts T → tSn T m < tNames T) ∧ (∀ d m, d < 30 → m < 8 → tGv T d m ≤ tNames T)
theorem vT_tMen {T : mo_Tn} (h : mo_vT T) : tMen T ≤ 8 := h.1
theorem vT_tNames {T : mo_Tn} (h : mo_vT T) : tNames T ≤ 12 := h.2.1
theorem vT_tComs {T : mo_Tn} (h : mo_vT T) : tComs T ≤ 40 := h.2.2.1
theorem vT_tBrs {T : mo_Tn} (h : mo_vT T) : tBrs T ≤ 40 := h.2.2.2.1
theorem vT_tOws {T : mo_Tn} (h : mo_vT T) : tOws T ≤ 40 := h.2.2.2.2.1
theorem vT_tTd {T : mo_Tn} (h : mo_vT T) : tTd T < 30 := h.2.2.2.2.2.1
theorem vT_tSts {T : mo_Tn} (h : mo_vT T) : tSts T ≤ 16 := h.2.2.2.2.2.2.1
theorem vT_tOwn {T : mo_Tn} (h : mo_vT T) {m : Nat} (hm : m < tMen T) : tOwn T m < tNames T := h.2.2.2.2.2.2.2.1 m hm
theorem vT_tCm {T : mo_Tn} (h : mo_vT T) {m : Nat} (hm : m < tComs T) : tCm T m < tMen T := h.2.2.2.2.2.2.2.2.1 m hm
theorem vT_tCd {T : mo_Tn} (h : mo_vT T) {m : Nat} (hm : m < tComs T) : tCd T m < 30 := h.2.2.2.2.2.2.2.2.2.1 m hm
theorem vT_tCi {T : mo_Tn} (h : mo_vT T) {m : Nat} (hm : m < tComs T) : tCi T m ≤ tCo T m := h.2.2.2.2.2.2.2.2.2.2.1 m hm
theorem vT_tCo {T : mo_Tn} (h : mo_vT T) {m : Nat} (hm : m < tComs T) : tCo T m < 100 := h.2.2.2.2.2.2.2.2.2.2.2.1 m hm
theorem vT_tGn {T : mo_Tn} (h : mo_vT T) {m : Nat} (hm : m < tBrs T) : tGn T m < tNames T := h.2.2.2.2.2.2.2.2.2.2.2.2.1 m hm
theorem vT_tGd {T : mo_Tn} (h : mo_vT T) {m : Nat} (hm : m < tBrs T) : tGd T m < 30 := h.2.2.2.2.2.2.2.2.2.2.2.2.2.1 m hm
theorem vT_tGk {T : mo_Tn} (h : mo_vT T) {m : Nat} (hm : m < tBrs T) : tGk T m ≤ tGo T m := h.2.2.2.2.2.2.2.2.2.2.2.2.2.2.1 m hm
theorem vT_tGo {T : mo_Tn} (h : mo_vT T) {m : Nat} (hm : m < tBrs T) : 1 ≤ tGo T m ∧ tGo T m ≤ 12 := h.2.2.2.2.2.2.2.2.2.2.2.2.2.2.2.1 m hm
theorem vT_tOf {T : mo_Tn} (h : mo_vT T) {m : Nat} (hm : m < tOws T) : tOf T m < tNames T := h.2.2.2.2.2.2.2.2.2.2.2.2.2.2.2.2.1 m hm
theorem vT_tOt {T : mo_Tn} (h : mo_vT T) {m : Nat} (hm : m < tOws T) : tOt T m < tNames T := h.2.2.2.2.2.2.2.2.2.2.2.2.2.2.2.2.2.1 m hm
theorem vT_tOd {T : mo_Tn} (h : mo_vT T) {m : Nat} (hm : m < tOws T) : tOd T m < 30 := h.2.2.2.2.2.2.2.2.2.2.2.2.2.2.2.2.2.2.1 m hm
theorem vT_tOs {T : mo_Tn} (h : mo_vT T) {m : Nat} (hm : m < tOws T) : tOs T m ≤ 99 := h.2.2.2.2.2.2.2.2.2.2.2.2.2.2.2.2.2.2.2.1 m hm
theorem vT_tSn {T : mo_Tn} (h : mo_vT T) {m : Nat} (hm : m < tSts T) : tSn T m < tNames T := h.2.2.2.2.2.2.2.2.2.2.2.2.2.2.2.2.2.2.2.2.1 m hm
theorem vT_tGv {T : mo_Tn} (h : mo_vT T) {d m : Nat} (hd : d < 30) (hm : m < 8) : tGv T d m ≤ tNames T := h.2.2.2.2.2.2.2.2.2.2.2.2.2.2.2.2.2.2.2.2.2 d m hd hm
/-- a row of the reference tells T -/
def mo_now (ρ : Nat → Int32) (T : mo_Tn) : Prop := mo_vT T ∧ ρ 0 = nI (tMen T) ∧ ρ 1 = nI (tNames T) ∧ ρ 2 = nI (tComs T) ∧ ρ 3 = nI (tBrs T) ∧ ρ 4 = nI (tOws T) ∧ ρ 552 = nI (tTd T) ∧ ρ 793 = nI (tSts T) ∧ (∀ m, m < tMen T → ρ (8 + 3 * m) = nI (tOwn T m)) ∧ (∀ m, m < tMen T → ρ (8 + 3 * m + 1) = tPurse T m) ∧ (∀ m, m < tMen T → ρ (8 + 3 * m + 2) = tFoes T m) ∧ (∀ m, m < tComs T → ρ (32 + 4 * m) = nI (tCm T m)) ∧ (∀ m, m < tComs T → ρ (32 + 4 * m + 1) = nI (tCd T m)) ∧ (∀ m, m < tComs T → ρ (32 + 4 * m + 2) = nI (tCi T m)) ∧ (∀ m, m < tComs T → ρ (32 + 4 * m + 3) = nI (tCo T m)) ∧ (∀ m, m < tBrs T → ρ (192 + 5 * m) = nI (tGn T m)) ∧ (∀ m, m < tBrs T → ρ (192 + 5 * m + 1) = nI (tGd T m)) ∧ (∀ m, m < tBrs T → ρ (192 + 5 * m + 2) = tGa T m) ∧ (∀ m, m < tBrs T → ρ (192 + 5 * m + 3) = nI (tGk T m)) ∧ (∀ m, m < tBrs T → ρ (192 + 5 * m + 4) = nI (tGo T m)) ∧ (∀ m, m < tOws T → ρ (392 + 4 * m) = nI (tOf T m)) ∧ (∀ m, m < tOws T → ρ (392 + 4 * m + 1) = nI (tOt T m)) ∧ (∀ m, m < tOws T → ρ (392 + 4 * m + 2) = nI (tOd T m)) ∧ (∀ m, m < tOws T → ρ (392 + 4 * m + 3) = nI (tOs T m)) ∧ (∀ m, m < tSts T → ρ (794 + 3 * m) = nI (tSn T m)) ∧ (∀ m, m < tSts T → ρ (794 + 3 * m + 1) = tSi T m) ∧ (∀ m, m < tSts T → ρ (794 + 3 * m + 2) = tSs T m) ∧ (∀ d m, d < 30 → m < 8 → ρ (553 + 8 * d + m) = nI (tGv T d m))
theorem now_v {ρ : Nat → Int32} {T : mo_Tn} (h : mo_now ρ T) : mo_vT T := h.1
theorem now_tMen {ρ : Nat → Int32} {T : mo_Tn} (h : mo_now ρ T) : ρ 0 = nI (tMen T) := h.2.1
theorem now_tNames {ρ : Nat → Int32} {T : mo_Tn} (h : mo_now ρ T) : ρ 1 = nI (tNames T) := h.2.2.1
theorem now_tComs {ρ : Nat → Int32} {T : mo_Tn} (h : mo_now ρ T) : ρ 2 = nI (tComs T) := h.2.2.2.1
theorem now_tBrs {ρ : Nat → Int32} {T : mo_Tn} (h : mo_now ρ T) : ρ 3 = nI (tBrs T) := h.2.2.2.2.1
theorem now_tOws {ρ : Nat → Int32} {T : mo_Tn} (h : mo_now ρ T) : ρ 4 = nI (tOws T) := h.2.2.2.2.2.1
theorem now_tTd {ρ : Nat → Int32} {T : mo_Tn} (h : mo_now ρ T) : ρ 552 = nI (tTd T) := h.2.2.2.2.2.2.1
theorem now_tSts {ρ : Nat → Int32} {T : mo_Tn} (h : mo_now ρ T) : ρ 793 = nI (tSts T) := h.2.2.2.2.2.2.2.1
theorem now_tOwn {ρ : Nat → Int32} {T : mo_Tn} (h : mo_now ρ T) {m x : Nat} (hm : m < tMen T) (hx : x = 8 + 3 * m) : ρ x = nI (tOwn T m) := by rw [hx]; exact h.2.2.2.2.2.2.2.2.1 m hm
theorem now_tPurse {ρ : Nat → Int32} {T : mo_Tn} (h : mo_now ρ T) {m x : Nat} (hm : m < tMen T) (hx : x = 8 + 3 * m + 1) : ρ x = tPurse T m := by rw [hx]; exact h.2.2.2.2.2.2.2.2.2.1 m hm
theorem now_tFoes {ρ : Nat → Int32} {T : mo_Tn} (h : mo_now ρ T) {m x : Nat} (hm : m < tMen T) (hx : x = 8 + 3 * m + 2) : ρ x = tFoes T m := by rw [hx]; exact h.2.2.2.2.2.2.2.2.2.2.1 m hm
theorem now_tCm {ρ : Nat → Int32} {T : mo_Tn} (h : mo_now ρ T) {m x : Nat} (hm : m < tComs T) (hx : x = 32 + 4 * m) : ρ x = nI (tCm T m) := by rw [hx]; exact h.2.2.2.2.2.2.2.2.2.2.2.1 m hm
theorem now_tCd {ρ : Nat → Int32} {T : mo_Tn} (h : mo_now ρ T) {m x : Nat} (hm : m < tComs T) (hx : x = 32 + 4 * m + 1) : ρ x = nI (tCd T m) := by rw [hx]; exact h.2.2.2.2.2.2.2.2.2.2.2.2.1 m hm
theorem now_tCi {ρ : Nat → Int32} {T : mo_Tn} (h : mo_now ρ T) {m x : Nat} (hm : m < tComs T) (hx : x = 32 + 4 * m + 2) : ρ x = nI (tCi T m) := by rw [hx]; exact h.2.2.2.2.2.2.2.2.2.2.2.2.2.1 m hm
theorem now_tCo {ρ : Nat → Int32} {T : mo_Tn} (h : mo_now ρ T) {m x : Nat} (hm : m < tComs T) (hx : x = 32 + 4 * m + 3) : ρ x = nI (tCo T m) := by rw [hx]; exact h.2.2.2.2.2.2.2.2.2.2.2.2.2.2.1 m hm
theorem now_tGn {ρ : Nat → Int32} {T : mo_Tn} (h : mo_now ρ T) {m x : Nat} (hm : m < tBrs T) (hx : x = 192 + 5 * m) : ρ x = nI (tGn T m) := by rw [hx]; exact h.2.2.2.2.2.2.2.2.2.2.2.2.2.2.2.1 m hm
theorem now_tGd {ρ : Nat → Int32} {T : mo_Tn} (h : mo_now ρ T) {m x : Nat} (hm : m < tBrs T) (hx : x = 192 + 5 * m + 1) : ρ x = nI (tGd T m) := by rw [hx]; exact h.2.2.2.2.2.2.2.2.2.2.2.2.2.2.2.2.1 m hm
theorem now_tGa {ρ : Nat → Int32} {T : mo_Tn} (h : mo_now ρ T) {m x : Nat} (hm : m < tBrs T) (hx : x = 192 + 5 * m + 2) : ρ x = tGa T m := by rw [hx]; exact h.2.2.2.2.2.2.2.2.2.2.2.2.2.2.2.2.2.1 m hm
theorem now_tGk {ρ : Nat → Int32} {T : mo_Tn} (h : mo_now ρ T) {m x : Nat} (hm : m < tBrs T) (hx : x = 192 + 5 * m + 3) : ρ x = nI (tGk T m) := by rw [hx]; exact h.2.2.2.2.2.2.2.2.2.2.2.2.2.2.2.2.2.2.1 m hm
theorem now_tGo {ρ : Nat → Int32} {T : mo_Tn} (h : mo_now ρ T) {m x : Nat} (hm : m < tBrs T) (hx : x = 192 + 5 * m + 4) : ρ x = nI (tGo T m) := by rw [hx]; exact h.2.2.2.2.2.2.2.2.2.2.2.2.2.2.2.2.2.2.2.1 m hm
theorem now_tOf {ρ : Nat → Int32} {T : mo_Tn} (h : mo_now ρ T) {m x : Nat} (hm : m < tOws T) (hx : x = 392 + 4 * m) : ρ x = nI (tOf T m) := by rw [hx]; exact h.2.2.2.2.2.2.2.2.2.2.2.2.2.2.2.2.2.2.2.2.1 m hm
theorem now_tOt {ρ : Nat → Int32} {T : mo_Tn} (h : mo_now ρ T) {m x : Nat} (hm : m < tOws T) (hx : x = 392 + 4 * m + 1) : ρ x = nI (tOt T m) := by rw [hx]; exact h.2.2.2.2.2.2.2.2.2.2.2.2.2.2.2.2.2.2.2.2.2.1 m hm
theorem now_tOd {ρ : Nat → Int32} {T : mo_Tn} (h : mo_now ρ T) {m x : Nat} (hm : m < tOws T) (hx : x = 392 + 4 * m + 2) : ρ x = nI (tOd T m) := by rw [hx]; exact h.2.2.2.2.2.2.2.2.2.2.2.2.2.2.2.2.2.2.2.2.2.2.1 m hm
theorem now_tOs {ρ : Nat → Int32} {T : mo_Tn} (h : mo_now ρ T) {m x : Nat} (hm : m < tOws T) (hx : x = 392 + 4 * m + 3) : ρ x = nI (tOs T m) := by rw [hx]; exact h.2.2.2.2.2.2.2.2.2.2.2.2.2.2.2.2.2.2.2.2.2.2.2.1 m hm
theorem now_tSn {ρ : Nat → Int32} {T : mo_Tn} (h : mo_now ρ T) {m x : Nat} (hm : m < tSts T) (hx : x = 794 + 3 * m) : ρ x = nI (tSn T m) := by rw [hx]; exact h.2.2.2.2.2.2.2.2.2.2.2.2.2.2.2.2.2.2.2.2.2.2.2.2.1 m hm
theorem now_tSi {ρ : Nat → Int32} {T : mo_Tn} (h : mo_now ρ T) {m x : Nat} (hm : m < tSts T) (hx : x = 794 + 3 * m + 1) : ρ x = tSi T m := by rw [hx]; exact h.2.2.2.2.2.2.2.2.2.2.2.2.2.2.2.2.2.2.2.2.2.2.2.2.2.1 m hm
theorem now_tSs {ρ : Nat → Int32} {T : mo_Tn} (h : mo_now ρ T) {m x : Nat} (hm : m < tSts T) (hx : x = 794 + 3 * m + 2) : ρ x = tSs T m := by rw [hx]; exact h.2.2.2.2.2.2.2.2.2.2.2.2.2.2.2.2.2.2.2.2.2.2.2.2.2.2.1 m hm
theorem now_tGv {ρ : Nat → Int32} {T : mo_Tn} (h : mo_now ρ T) {d m x : Nat} (hd : d < 30) (hm : m < 8) (hx : x = 553 + 8 * d + m) : ρ x = nI (tGv T d m) := by rw [hx]; exact h.2.2.2.2.2.2.2.2.2.2.2.2.2.2.2.2.2.2.2.2.2.2.2.2.2.2.2 d m hd hm
theorem mo_mk1 {K : mo_K} {R : Nat → Nat → Nat} {a : Nat} (h : mo_md K R a) : mo_kd K (R a 1) = 100 := (h.2.1 (1, 100, 940) (by decide)).1
theorem mo_ml1 {K : mo_K} {R : Nat → Nat → Nat} {a : Nat} (h : mo_md K R a) : mo_ln K (R a 1) = 940 := (h.2.1 (1, 100, 940) (by decide)).2
theorem mo_mk14 {K : mo_K} {R : Nat → Nat → Nat} {a : Nat} (h : mo_md K R a) : mo_kd K (R a 14) = 100 := (h.2.1 (14, 100, 842) (by decide)).1
theorem mo_ml14 {K : mo_K} {R : Nat → Nat → Nat} {a : Nat} (h : mo_md K R a) : mo_ln K (R a 14) = 842 := (h.2.1 (14, 100, 842) (by decide)).2
theorem mo_mk15 {K : mo_K} {R : Nat → Nat → Nat} {a : Nat} (h : mo_md K R a) : mo_kd K (R a 15) = 100 := (h.2.1 (15, 100, 552) (by decide)).1
theorem mo_ml15 {K : mo_K} {R : Nat → Nat → Nat} {a : Nat} (h : mo_md K R a) : mo_ln K (R a 15) = 552 := (h.2.1 (15, 100, 552) (by decide)).2
theorem mo_mk16 {K : mo_K} {R : Nat → Nat → Nat} {a : Nat} (h : mo_md K R a) : mo_kd K (R a 16) = 100 := (h.2.1 (16, 100, 48) (by decide)).1
theorem mo_ml16 {K : mo_K} {R : Nat → Nat → Nat} {a : Nat} (h : mo_md K R a) : mo_ln K (R a 16) = 48 := (h.2.1 (16, 100, 48) (by decide)).2
theorem mo_mk17 {K : mo_K} {R : Nat → Nat → Nat} {a : Nat} (h : mo_md K R a) : mo_kd K (R a 17) = 100 := (h.2.1 (17, 100, 1684) (by decide)).1
theorem mo_ml17 {K : mo_K} {R : Nat → Nat → Nat} {a : Nat} (h : mo_md K R a) : mo_ln K (R a 17) = 1684 := (h.2.1 (17, 100, 1684) (by decide)).2
theorem mo_mk18 {K : mo_K} {R : Nat → Nat → Nat} {a : Nat} (h : mo_md K R a) : mo_kd K (R a 18) = 101 := (h.2.1 (18, 101, 12) (by decide)).1
theorem mo_ml18 {K : mo_K} {R : Nat → Nat → Nat} {a : Nat} (h : mo_md K R a) : mo_ln K (R a 18) = 12 := (h.2.1 (18, 101, 12) (by decide)).2
theorem mo_mk19 {K : mo_K} {R : Nat → Nat → Nat} {a : Nat} (h : mo_md K R a) : mo_kd K (R a 19) = 101 := (h.2.1 (19, 101, 12) (by decide)).1
theorem mo_ml19 {K : mo_K} {R : Nat → Nat → Nat} {a : Nat} (h : mo_md K R a) : mo_ln K (R a 19) = 12 := (h.2.1 (19, 101, 12) (by decide)).2
theorem mo_mk20 {K : mo_K} {R : Nat → Nat → Nat} {a : Nat} (h : mo_md K R a) : mo_kd K (R a 20) = 101 := (h.2.1 (20, 101, 24) (by decide)).1
theorem mo_ml20 {K : mo_K} {R : Nat → Nat → Nat} {a : Nat} (h : mo_md K R a) : mo_ln K (R a 20) = 24 := (h.2.1 (20, 101, 24) (by decide)).2
theorem mo_mk21 {K : mo_K} {R : Nat → Nat → Nat} {a : Nat} (h : mo_md K R a) : mo_kd K (R a 21) = 103 := (h.2.1 (21, 103, 2) (by decide)).1
theorem mo_ml21 {K : mo_K} {R : Nat → Nat → Nat} {a : Nat} (h : mo_md K R a) : mo_ln K (R a 21) = 2 := (h.2.1 (21, 103, 2) (by decide)).2
theorem mo_mk22 {K : mo_K} {R : Nat → Nat → Nat} {a : Nat} (h : mo_md K R a) : mo_kd K (R a 22) = 100 := (h.2.1 (22, 100, 8) (by decide)).1
theorem mo_ml22 {K : mo_K} {R : Nat → Nat → Nat} {a : Nat} (h : mo_md K R a) : mo_ln K (R a 22) = 8 := (h.2.1 (22, 100, 8) (by decide)).2
theorem mo_mk24 {K : mo_K} {R : Nat → Nat → Nat} {a : Nat} (h : mo_md K R a) : mo_kd K (R a 24) = 101 := (h.2.1 (24, 101, 36864) (by decide)).1
theorem mo_ml24 {K : mo_K} {R : Nat → Nat → Nat} {a : Nat} (h : mo_md K R a) : mo_ln K (R a 24) = 36864 := (h.2.1 (24, 101, 36864) (by decide)).2
theorem mo_mk25 {K : mo_K} {R : Nat → Nat → Nat} {a : Nat} (h : mo_md K R a) : mo_kd K (R a 25) = 101 := (h.2.1 (25, 101, 12) (by decide)).1
theorem mo_ml25 {K : mo_K} {R : Nat → Nat → Nat} {a : Nat} (h : mo_md K R a) : mo_ln K (R a 25) = 12 := (h.2.1 (25, 101, 12) (by decide)).2
theorem mo_mk26 {K : mo_K} {R : Nat → Nat → Nat} {a : Nat} (h : mo_md K R a) : mo_kd K (R a 26) = 100 := (h.2.1 (26, 100, 8) (by decide)).1
theorem mo_ml26 {K : mo_K} {R : Nat → Nat → Nat} {a : Nat} (h : mo_md K R a) : mo_ln K (R a 26) = 8 := (h.2.1 (26, 100, 8) (by decide)).2
theorem mo_mk27 {K : mo_K} {R : Nat → Nat → Nat} {a : Nat} (h : mo_md K R a) : mo_kd K (R a 27) = 100 := (h.2.1 (27, 100, 8) (by decide)).1
theorem mo_ml27 {K : mo_K} {R : Nat → Nat → Nat} {a : Nat} (h : mo_md K R a) : mo_ln K (R a 27) = 8 := (h.2.1 (27, 100, 8) (by decide)).2
theorem mo_mk28 {K : mo_K} {R : Nat → Nat → Nat} {a : Nat} (h : mo_md K R a) : mo_kd K (R a 28) = 100 := (h.2.1 (28, 100, 8) (by decide)).1
theorem mo_ml28 {K : mo_K} {R : Nat → Nat → Nat} {a : Nat} (h : mo_md K R a) : mo_ln K (R a 28) = 8 := (h.2.1 (28, 100, 8) (by decide)).2
theorem mo_mk32 {K : mo_K} {R : Nat → Nat → Nat} {a : Nat} (h : mo_md K R a) : mo_kd K (R a 32) = 101 := (h.2.1 (32, 101, 4096) (by decide)).1
theorem mo_ml32 {K : mo_K} {R : Nat → Nat → Nat} {a : Nat} (h : mo_md K R a) : mo_ln K (R a 32) = 4096 := (h.2.1 (32, 101, 4096) (by decide)).2
theorem mo_mk34 {K : mo_K} {R : Nat → Nat → Nat} {a : Nat} (h : mo_md K R a) : mo_kd K (R a 34) = 100 := (h.2.1 (34, 100, 8) (by decide)).1
theorem mo_ml34 {K : mo_K} {R : Nat → Nat → Nat} {a : Nat} (h : mo_md K R a) : mo_ln K (R a 34) = 8 := (h.2.1 (34, 100, 8) (by decide)).2
theorem mo_mk35 {K : mo_K} {R : Nat → Nat → Nat} {a : Nat} (h : mo_md K R a) : mo_kd K (R a 35) = 100 := (h.2.1 (35, 100, 8) (by decide)).1
theorem mo_ml35 {K : mo_K} {R : Nat → Nat → Nat} {a : Nat} (h : mo_md K R a) : mo_ln K (R a 35) = 8 := (h.2.1 (35, 100, 8) (by decide)).2
theorem mo_mk36 {K : mo_K} {R : Nat → Nat → Nat} {a : Nat} (h : mo_md K R a) : mo_kd K (R a 36) = 100 := (h.2.1 (36, 100, 8) (by decide)).1
theorem mo_ml36 {K : mo_K} {R : Nat → Nat → Nat} {a : Nat} (h : mo_md K R a) : mo_ln K (R a 36) = 8 := (h.2.1 (36, 100, 8) (by decide)).2
theorem mo_mk38 {K : mo_K} {R : Nat → Nat → Nat} {a : Nat} (h : mo_md K R a) : mo_kd K (R a 38) = 103 := (h.2.1 (38, 103, 256) (by decide)).1
theorem mo_ml38 {K : mo_K} {R : Nat → Nat → Nat} {a : Nat} (h : mo_md K R a) : mo_ln K (R a 38) = 256 := (h.2.1 (38, 103, 256) (by decide)).2
theorem mo_mk39 {K : mo_K} {R : Nat → Nat → Nat} {a : Nat} (h : mo_md K R a) : mo_kd K (R a 39) = 100 := (h.2.1 (39, 100, 8) (by decide)).1
theorem mo_ml39 {K : mo_K} {R : Nat → Nat → Nat} {a : Nat} (h : mo_md K R a) : mo_ln K (R a 39) = 8 := (h.2.1 (39, 100, 8) (by decide)).2
theorem mo_mk40 {K : mo_K} {R : Nat → Nat → Nat} {a : Nat} (h : mo_md K R a) : mo_kd K (R a 40) = 100 := (h.2.1 (40, 100, 8) (by decide)).1
theorem mo_ml40 {K : mo_K} {R : Nat → Nat → Nat} {a : Nat} (h : mo_md K R a) : mo_ln K (R a 40) = 8 := (h.2.1 (40, 100, 8) (by decide)).2
def mo_isIn (v p w : Int32) : Int32 := if v < p then 0 else (if w < v then 0 else 1)
/-- 0 ≤ m < x -/
def mo_isB (m x : Int32) : Int32 := if m < 0 then 0 else (if x ≤ m then 0 else 1)
def mo_has (s k : Int32) : Int32 := if ((s >>> (k &&& 31)) &&& 1) = 1 then 1 else 0
/-- the coming of a man on a day -/
def tF (T : mo_Tn) (m d : Int32) : Option Nat := mo_ff (fun c => decide (nI (tCm T c) = m ∧ nI (tCd T c) = d)) (tComs T)
theorem mo_ff_congr {p q : Nat → Bool} {n : Nat} (h : ∀ c, c < n → p c = q c) : mo_ff p n = mo_ff q n := by
  cases e : mo_ff q n with
  | none =>
    exact mo_ff_none (fun j hj => by
      rw [h j hj]
      unfold mo_ff at e
      have := List.find?_eq_none.mp e j (List.mem_range.mpr hj)
      simpa using this)
  | some c =>
    have h1 := mo_ff_lt e
    refine mo_ff_some h1.1 (by rw [h c h1.1]; exact h1.2.1) (fun j hj => by rw [h j (Nat.lt_trans hj h1.1)]; exact h1.2.2 j hj)
theorem tF_lt {T : mo_Tn} {m d : Int32} {c : Nat} (e : tF T m d = some c) : c < tComs T ∧ nI (tCm T c) = m ∧ nI (tCd T c) = d := ⟨(mo_ff_lt e).1, of_decide_eq_true (mo_ff_lt e).2.1⟩
theorem C_comeOf (l : Launch) (K : mo_K) (R : Nat → Nat → Nat) (I : Nat → Nat → Int32) (L : Nat → Nat → Int64) (a : Nat) (T : mo_Tn) (m d : Int32) (h : mo_md K R a) (hN : mo_now (I (R a 14)) T) : mo_D l mm_Model_comeOf 0 [.ref a, .int m, .int d] (K, R, I, L, 0) (some (.int (mo_sel (fun c => nI (32 + 4 * c)) (tF T m d)))) (K, R, I, L, 0) := by
  refine mo_D_eq (C_Model_comeOf l K R I L a (tComs T) m d h (now_tComs hN) (vT_tComs (now_v hN))) ?_ rfl
  unfold tF
  rw [mo_ff_congr (fun c hc => by rw [now_tCm hN hc rfl, now_tCd hN hc rfl])]
/-- an int as a number below n -/
def tB (m : Int32) (n : Nat) : Option Nat := if 0 ≤ m ∧ m < nI n then some m.toNatClampNeg else none
theorem tB_v {m : Int32} {n v : Nat} (hn : n < 2147483648) (e : tB m n = some v) : v < n ∧ m = nI v := by
  unfold tB at e
  by_cases c : 0 ≤ m ∧ m < nI n
  · rw [if_pos c] at e
    cases e
    obtain ⟨j, hj, hm⟩ := nI_of (x := m) (fun z => absurd z (Int32.not_lt.mpr c.1))
    have h2 := (nI_ltI hj hn).mp (hm ▸ c.2)
    rw [hm, nI_clamp hj]
    exact ⟨h2, rfl⟩
  · rw [if_neg c] at e; cases e
theorem tB_n {m : Int32} {n : Nat} (e : tB m n = none) : ¬ (0 ≤ m ∧ m < nI n) := fun c => by
  unfold tB at e
  rw [if_pos c] at e; cases e
theorem tB_c {m : Int32} {n v : Nat} (e : tB m n = some v) : 0 ≤ m ∧ m < nI n := by
  unfold tB at e
  by_cases c : 0 ≤ m ∧ m < nI n
  · exact c
  · rw [if_neg c] at e; cases e
theorem tB_BN {m : Int32} {n : Nat} (e : tB m n = none) : mo_isB m (nI n) = 0 := by
  unfold mo_isB
  by_cases c : m < 0
  · rw [if_pos c]
  · rw [if_neg c, if_pos]
    exact Int32.not_lt.mp (fun z => tB_n e ⟨Int32.not_lt.mp c, z⟩)
theorem tB_BS {m : Int32} {n v : Nat} (e : tB m n = some v) : mo_isB m (nI n) = 1 := by
  have c := tB_c e
  unfold mo_isB
  rw [if_neg (Int32.not_lt.mpr c.1), if_neg (Int32.not_le.mpr c.2)]
theorem tB_iff {m : Int32} {k : Nat} (hk : k + 1 < 2147483648) : m < nI (k + 1) ↔ ¬ nI k < m := by
  rw [Int32.lt_iff_toInt_lt, Int32.lt_iff_toInt_lt, nI_toInt hk, nI_toInt (show k < 2 ^ 31 by omega)]
  omega
theorem tB_IN {m : Int32} {k : Nat} (hk : k + 1 < 2147483648) (e : tB m (k + 1) = none) : mo_isIn m 0 (nI k) = 0 := by
  unfold mo_isIn
  by_cases c : m < 0
  · rw [if_pos c]
  · rw [if_neg c, if_pos]
    exact Classical.not_not.mp (fun z => tB_n e ⟨Int32.not_lt.mp c, (tB_iff hk).mpr z⟩)
theorem tB_IS {m : Int32} {k v : Nat} (hk : k + 1 < 2147483648) (e : tB m (k + 1) = some v) : mo_isIn m 0 (nI k) = 1 := by
  have c := tB_c e
  unfold mo_isIn
  rw [if_neg (Int32.not_lt.mpr c.1), if_neg ((tB_iff hk).mp c.2)]
theorem mo_selN {f : Nat → Int32} {o : Option Nat} (e : o = none) : mo_sel f o = -1 := by rw [e]; rfl
theorem mo_selS {f : Nat → Int32} {o : Option Nat} {c : Nat} (e : o = some c) : mo_sel f o = f c := by rw [e]; rfl
theorem mo_oiN {o : Option Nat} (e : o = none) : mo_oi o = -1 := by rw [e]; rfl
theorem mo_oiS {o : Option Nat} {c : Nat} (e : o = some c) : mo_oi o = nI c := by rw [e]; rfl

