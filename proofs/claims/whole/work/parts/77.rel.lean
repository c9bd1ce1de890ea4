/-! Tokens of the class and of the reference are the same. -/
/-- a word's number by 32 turned to its number by 27 -/
def mo_F27 (n : Nat) : Nat := n % 32 + 27 * (n / 32 % 32) + 729 * (n / 1024 % 32) + 19683 * (n / 32768 % 32) + 531441 * (n / 1048576 % 32) + 14348907 * (n / 33554432 % 32)
def mo_vw (n : Nat) : Prop := n < 1073741824 ∧ n % 32 < 27 ∧ n / 32 % 32 < 27 ∧ n / 1024 % 32 < 27 ∧ n / 32768 % 32 < 27 ∧ n / 1048576 % 32 < 27 ∧ n / 33554432 % 32 < 27
theorem mo_F_lt {n : Nat} (h : mo_vw n) : mo_F27 n < 387420489 := by
  obtain ⟨h0, h1, h2, h3, h4, h5, h6⟩ := h
  unfold mo_F27
  omega
theorem mo_F_inj {n m : Nat} (h : mo_vw n) (k : mo_vw m) (e : mo_F27 n = mo_F27 m) : n = m := by
  obtain ⟨h0, h1, h2, h3, h4, h5, h6⟩ := h
  obtain ⟨k0, k1, k2, k3, k4, k5, k6⟩ := k
  unfold mo_F27 at e
  have e1 : n % 32 = m % 32 := by omega
  have e2 : n / 32 % 32 = m / 32 % 32 := by omega
  have e3 : n / 1024 % 32 = m / 1024 % 32 := by omega
  have e4 : n / 32768 % 32 = m / 32768 % 32 := by omega
  have e5 : n / 1048576 % 32 = m / 1048576 % 32 := by omega
  have e6 : n / 33554432 % 32 = m / 33554432 % 32 := by omega
  omega
theorem mo_F_step {n x : Nat} (h : n < 33554432) (hv : mo_vw n) (hx : x < 27) : mo_F27 (32 * n + x) = 27 * mo_F27 n + x ∧ mo_vw (32 * n + x) := by
  obtain ⟨h0, h1, h2, h3, h4, h5, h6⟩ := hv
  have a1 : (32 * n + x) % 32 = x := by omega
  have a2 : (32 * n + x) / 32 = n := by omega
  have a3 : (32 * n + x) / 1024 = n / 32 := by omega
  have a4 : (32 * n + x) / 32768 = n / 1024 := by omega
  have a5 : (32 * n + x) / 1048576 = n / 32768 := by omega
  have a6 : (32 * n + x) / 33554432 = n / 1048576 := by omega
  have a7 : n / 33554432 % 32 = 0 := by omega
  refine ⟨?_, ?_⟩
  · unfold mo_F27
    rw [a1, a2, a3, a4, a5, a6, a7]
    omega
  · unfold mo_vw
    rw [a1, a2, a3, a4, a5, a6]
    exact ⟨by omega, by omega, h1, h2, h3, h4, h5⟩
/-- the same word, as the class and as the reference has it -/
def tkWd (v : Int32) (w : Int64) : Prop := ∃ n, v = nI n ∧ w = lN (mo_F27 n) ∧ mo_vw n
theorem lN_inj {a b : Nat} (ha : a < 2 ^ 63) (hb : b < 2 ^ 63) (e : lN a = lN b) : a = b := by
  have h1 : (lN a).toInt = (a : Int) := Int64.toInt_ofNat_of_lt ha
  have h2 : (lN b).toInt = (b : Int) := Int64.toInt_ofNat_of_lt hb
  rw [e] at h1
  omega
theorem tkWd_eq {v v' : Int32} {w w' : Int64} (h : tkWd v w) (k : tkWd v' w') : v = v' ↔ w = w' := by
  obtain ⟨n, h1, h2, h3⟩ := h
  obtain ⟨m, k1, k2, k3⟩ := k
  have l1 := mo_F_lt h3
  have l2 := mo_F_lt k3
  constructor
  · intro e
    have : n = m := (nI_eq (by have := h3.1; omega) (by have := k3.1; omega)).mp (by rw [← h1, ← k1]; exact e)
    rw [h2, k2, this]
  · intro e
    have := mo_F_inj h3 k3 (lN_inj (by omega) (by omega) (by rw [← h2, ← k2]; exact e))
    rw [h1, k1, this]
set_option maxRecDepth 100000 in
theorem mo_sx_all2 : (List.range 256).all (fun c => (decide (mo_sx c < 97 ↔ (c < 97 ∨ 128 ≤ c)) && decide (122 < mo_sx c ↔ (122 < c ∧ c < 128))) && ((decide (mo_sx c < 48 ↔ (c < 48 ∨ 128 ≤ c)) && decide (57 < mo_sx c ↔ (57 < c ∧ c < 128))) && ((decide (c < 128 → mo_sx c = nI c) && decide (97 ≤ c ∧ c ≤ 122 → mo_sx c &&& 31 = nI (c - 96))) && ((decide (mo_sx c = 32 ↔ c = 32) && decide (mo_sx c = 10 ↔ c = 10)) && (decide (mo_sx c = 59 ↔ c = 59) && (decide (mo_sx c = 45 ↔ c = 45) && decide (mo_sx c = 47 ↔ c = 47))))))) = true := by decide +kernel
theorem mo_sxc {c : Nat} (h : c < 256) : ((mo_sx c < 97 ↔ (c < 97 ∨ 128 ≤ c)) ∧ (122 < mo_sx c ↔ (122 < c ∧ c < 128))) ∧ ((mo_sx c < 48 ↔ (c < 48 ∨ 128 ≤ c)) ∧ (57 < mo_sx c ↔ (57 < c ∧ c < 128))) ∧ ((c < 128 → mo_sx c = nI c) ∧ (97 ≤ c ∧ c ≤ 122 → mo_sx c &&& 31 = nI (c - 96))) ∧ ((mo_sx c = 32 ↔ c = 32) ∧ (mo_sx c = 10 ↔ c = 10)) ∧ (mo_sx c = 59 ↔ c = 59) ∧ (mo_sx c = 45 ↔ c = 45) ∧ (mo_sx c = 47 ↔ c = 47) := by
  have k := List.all_eq_true.mp mo_sx_all2 c (List.mem_range.mpr h)
  simp only [Bool.and_eq_true] at k
  obtain ⟨⟨a, b⟩, ⟨d, e⟩, ⟨f, g⟩, ⟨i, j⟩, l, m, n⟩ := k
  exact ⟨⟨of_decide_eq_true a, of_decide_eq_true b⟩, ⟨of_decide_eq_true d, of_decide_eq_true e⟩, ⟨of_decide_eq_true f, of_decide_eq_true g⟩, ⟨of_decide_eq_true i, of_decide_eq_true j⟩, of_decide_eq_true l, of_decide_eq_true m, of_decide_eq_true n⟩
theorem mo_shl5 {n x : Nat} (hn : n < 33554432) (hx : x < 32) : (nI n <<< ((5 : Int32) &&& 31)) ||| nI x = nI (32 * n + x) := by
  have e : nI n <<< ((5 : Int32) &&& 31) = nI (32 * n) := by
    apply Int32.toBitVec_inj.mp
    rw [Int32.toBitVec_shiftLeft]
    show BitVec.ofNat 32 n <<< _ = BitVec.ofNat 32 (32 * n)
    apply BitVec.eq_of_toNat_eq
    rw [show (((5 : Int32) &&& 31).toBitVec.smod 32) = 5#32 by decide, BitVec.shiftLeft_eq', BitVec.toNat_shiftLeft, BitVec.toNat_ofNat, BitVec.toNat_ofNat, BitVec.toNat_ofNat]
    rw [show 5 % 2 ^ 32 = 5 from rfl, Nat.shiftLeft_eq, Nat.mod_eq_of_lt (a := n) (by omega)]
    omega
  rw [e, mo_nor rfl rfl (by omega) (by omega)]
  congr 1
  rw [show 32 * n = 2 ^ 5 * n from rfl, ← Nat.two_pow_add_eq_or_of_lt (by omega)]
