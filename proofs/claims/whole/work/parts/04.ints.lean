/-! closed facts of small numbers -/
theorem qg_1s : ∀ k, k < 31 → (1 : Int32) <<< (nI k &&& 31) = nI (2 ^ k) := by decide +kernel
theorem qg_or {k x : Nat} (hk : k < 8) (hx : x < 2 ^ k) : nI x ||| ((1 : Int32) <<< (nI k &&& 31)) = nI (x + 2 ^ k) := by
  rw [qg_1s k (by omega)]
  apply b_ext
  intro i hi
  rw [b_or, qg_bt x hi, qg_bt _ hi, qg_bt _ hi, ← Nat.testBit_or]
  have e := Nat.two_pow_add_eq_or_of_lt hx 1
  rw [Nat.mul_one] at e
  rw [Nat.or_comm, ← e, Nat.add_comm]
theorem qg_clr : ∀ v, v < 8 → ∀ z, z < 2 ^ (v + 1) → nI z &&& (((1 : Int32) <<< (nI v &&& 31)) ^^^ (-1)) = nI (z % 2 ^ v) := by decide +kernel
theorem qg_shr {s v : Nat} (hs : s < 2 ^ 31) (hv : v < 32) : nI s >>> (nI v &&& 31) = nI (s / 2 ^ v) := pk_shrN hs _ v (s_l v hv)
theorem qg_tst {s v : Nat} (hs : s < 2 ^ 31) (hv : v < 32) : (nI s >>> (nI v &&& 31)) &&& 1 = nI (s / 2 ^ v % 2) := by
  have h2 : s / 2 ^ v ≤ s := Nat.div_le_self _ _
  rw [qg_shr hs hv, pk_andN (by omega) 1 (by decide), Nat.pow_one]
theorem qg_t1 {s v : Nat} (hs : s < 2 ^ 31) (hv : v < 32) : (nI s >>> (nI v &&& 31)) &&& 1 = 1 ↔ s / 2 ^ v % 2 = 1 := by
  have h2 : s / 2 ^ v % 2 < 2 := Nat.mod_lt _ (by decide)
  rw [qg_tst hs hv]
  exact nI_eq (b := 1) (by omega) (by decide)
theorem qg_sh6 {x : Nat} (h : x < 2 ^ 31) : nI x >>> ((6 : Int32) &&& 31) = nI (x / 64) := pk_shrN h _ 6 (by decide)
theorem qg_a63 {x : Nat} (h : x < 2 ^ 31) : nI x &&& 63 = nI (x % 64) := pk_andN (by omega) 6 (by decide)
theorem qg_shl1 {v x : Nat} (hv : v < 8) (hx : x < 256) : nI x <<< (nI v &&& 31) = nI (x * 2 ^ v) := by
  apply pk_shlN _ v (s_l v (by omega))
  have hp : 2 ^ v ≤ 128 := Nat.pow_le_pow_right (n := 2) (by decide) (show v ≤ 7 by omega)
  have h3 : x * 2 ^ v ≤ x * 128 := Nat.mul_le_mul_left x hp
  omega
/-! steps of the words -/
theorem qg_al_step {c n : Nat} (hc : 1 ≤ c) (b : Bool) : (decide (c ≤ n) || (decide (c - 1 ≤ n) && b)) = decide (c ≤ n + (if b = true then 1 else 0)) := by
  cases b
  · simp
  · by_cases h : c - 1 ≤ n
    · have h2 : c ≤ n + 1 := by omega
      simp [h, h2]
    · have h1 : ¬ c ≤ n := by omega
      have h2 : ¬ c ≤ n + 1 := by omega
      simp [h, h1, h2]
theorem qg_odd_step (n : Nat) (b : Bool) : (decide (n % 2 = 1) ^^ b) = decide ((n + (if b = true then 1 else 0)) % 2 = 1) := by
  cases b
  · simp
  · by_cases h : n % 2 = 1
    · have h2 : ¬ (n + 1) % 2 = 1 := by omega
      simp [h, h2]
    · have h2 : (n + 1) % 2 = 1 := by omega
      simp [h, h2]
