/-! pure: numbers, bits, rules, the game -/
def qg_b (b : Bool) : Int32 := if b = true then 1 else 0
theorem qg_b_t : qg_b true = 1 := rfl
theorem qg_b_f : qg_b false = 0 := rfl
theorem qg_b_1 (b : Bool) : qg_b b = 1 ↔ b = true := by cases b <;> decide
theorem qg_b_0 (b : Bool) : qg_b b = 0 ↔ b = false := by cases b <;> decide
theorem qg_b_i (a b : Bool) : qg_b a = qg_b b ↔ a = b := by cases a <;> cases b <;> decide
def qg_pop (s : Nat) : Nat → Nat
  | 0 => 0
  | v + 1 => qg_pop s v + s / 2 ^ v % 2
theorem qg_bit (s v : Nat) : s / 2 ^ v % 2 = if s.testBit v = true then 1 else 0 := by
  rw [Nat.testBit_eq_decide_div_mod_eq]
  by_cases h : s / 2 ^ v % 2 = 1
  · rw [decide_eq_true h, if_pos rfl]; exact h
  · have h2 : s / 2 ^ v % 2 < 2 := Nat.mod_lt _ (by decide)
    rw [decide_eq_false h, if_neg (by decide)]
    generalize s / 2 ^ v % 2 = z at *
    omega
theorem qg_tb (s v : Nat) : s.testBit v = true ↔ s / 2 ^ v % 2 = 1 := by
  rw [Nat.testBit_eq_decide_div_mod_eq, decide_eq_true_eq]
theorem qg_pop_le (s : Nat) : ∀ v, qg_pop s v ≤ v
  | 0 => Nat.le_refl _
  | v + 1 => by
    have h := qg_pop_le s v
    have h2 : s / 2 ^ v % 2 < 2 := Nat.mod_lt _ (by decide)
    show qg_pop s v + s / 2 ^ v % 2 ≤ v + 1
    generalize s / 2 ^ v % 2 = z at *
    omega
theorem qg_pop_half : ∀ s, s < 256 → qg_pop s 8 = qg_pop (s / 2) 8 + s % 2 := by decide +kernel
theorem qg_pop_z : ∀ s, s < 256 → (qg_pop s 8 = 0 ↔ s = 0) := by decide +kernel
def qg_cb (s m v : Nat) : Nat := if (s.testBit v && m.testBit v) = true then 1 else 0
theorem qg_pop_s (s m v : Nat) : qg_pop (s &&& m) (v + 1) = qg_pop (s &&& m) v + qg_cb s m v := by
  show qg_pop (s &&& m) v + (s &&& m) / 2 ^ v % 2 = _
  rw [qg_bit, Nat.testBit_and]
  rfl
theorem qg_and_lt {a b : Nat} (h : a < 256) : a &&& b < 256 := Nat.lt_of_le_of_lt Nat.and_le_left h
theorem qg_pop_al (p m : Nat) : ∀ v, qg_pop (p &&& m) v ≤ qg_pop p v
  | 0 => Nat.le_refl _
  | v + 1 => by
    have h := qg_pop_al p m v
    rw [qg_pop_s]
    show _ ≤ qg_pop p v + p / 2 ^ v % 2
    rw [qg_bit]
    unfold qg_cb
    cases p.testBit v <;> cases m.testBit v <;> simp <;> omega
theorem qg_pop_ae (p m : Nat) : ∀ v, qg_pop p v ≤ qg_pop (p &&& m) v ↔ ∀ u, u < v → p.testBit u = true → m.testBit u = true
  | 0 => ⟨fun _ u hu => absurd hu (Nat.not_lt_zero u), fun _ => Nat.le_refl _⟩
  | v + 1 => by
    have ih := qg_pop_ae p m v
    have hl := qg_pop_al p m v
    have e2 : qg_pop p (v + 1) = qg_pop p v + (if p.testBit v = true then 1 else 0) := by
      show qg_pop p v + p / 2 ^ v % 2 = _
      rw [qg_bit]
    rw [qg_pop_s, e2]
    unfold qg_cb
    constructor
    · intro h u hu hp
      by_cases hz : p.testBit v = true ∧ m.testBit v = false
      · rw [hz.1, hz.2] at h
        simp at h
        omega
      · have h2 : qg_pop p v ≤ qg_pop (p &&& m) v := by
          revert h hz
          cases p.testBit v <;> cases m.testBit v <;> simp <;> omega
        rcases Nat.lt_or_ge u v with z | z
        · exact ih.mp h2 u z hp
        · have e : u = v := by omega
          subst e
          cases hm : m.testBit u with
          | true => rfl
          | false => exact absurd ⟨hp, hm⟩ hz
    · intro h
      have h2 := ih.mpr (fun u hu => h u (by omega))
      have h3 := h v (by omega)
      revert h3
      cases p.testBit v <;> cases m.testBit v <;> simp <;> omega
theorem qg_hi {x u : Nat} (h : x < 256) (hu : 8 ≤ u) : x.testBit u = false :=
  Nat.testBit_lt_two_pow (Nat.lt_of_lt_of_le h (Nat.pow_le_pow_right (n := 2) (by decide) hu))
theorem qg_sub {P m : Nat} (hP : P < 256) : (P &&& m = P) ↔ qg_pop P 8 ≤ qg_pop (P &&& m) 8 := by
  rw [qg_pop_ae]
  constructor
  · intro h u _ hp
    have e : (P &&& m).testBit u = true := by rw [h]; exact hp
    rw [Nat.testBit_and, hp] at e
    simpa using e
  · intro h
    apply Nat.eq_of_testBit_eq
    intro u
    rw [Nat.testBit_and]
    rcases Nat.lt_or_ge u 8 with z | z
    · have h2 := h u z
      revert h2
      cases P.testBit u <;> cases m.testBit u <;> simp
    · rw [qg_hi hP z]; rfl
theorem qg_bt (n : Nat) {i : Nat} (hi : i < 32) : bt (nI n) i = n.testBit i := by
  unfold bt
  show (BitVec.ofNat 32 n).getLsbD i = _
  rw [BitVec.getLsbD_ofNat]
  simp [hi]
theorem qg_com {Q m : Nat} (hQ : Q < 256) : ((nI m ^^^ (-1)) &&& nI Q = 0) ↔ qg_pop Q 8 ≤ qg_pop (Q &&& m) 8 := by
  rw [qg_pop_ae]
  constructor
  · intro h u hu hq
    have e : bt ((nI m ^^^ (-1)) &&& nI Q) u = false := by rw [h]; exact b_0 u
    rw [b_and, b_xor, qg_bt m (by omega), qg_bt Q (by omega), b_m1 u (by omega), hq] at e
    revert e
    cases m.testBit u <;> simp
  · intro h
    apply b_ext
    intro i hi
    rw [b_and, b_xor, qg_bt m hi, qg_bt Q hi, b_m1 i hi, b_0]
    rcases Nat.lt_or_ge i 8 with z | z
    · have h2 := h i z
      revert h2
      cases Q.testBit i <;> cases m.testBit i <;> simp
    · rw [qg_hi hQ z]; simp
theorem qg_nI0 {n : Nat} (h : n < 256) : nI n = 0 ↔ qg_pop n 8 = 0 := by
  rw [← nI_0, nI_eq (by omega) (by omega), qg_pop_z n h]
/-! one rule -/
def qg_rn (K P Q m : Nat) : Bool :=
  if K = 0 then (decide (¬ qg_pop (P &&& m) 8 = 0) || decide (¬ qg_pop Q 8 ≤ qg_pop (Q &&& m) 8))
  else if K = 1 then decide (qg_pop (P &&& m) 8 % 2 = Q)
  else if K = 2 then decide (qg_pop (P &&& m) 8 ≤ Q)
  else (decide (qg_pop (P &&& m) 8 = 0) || decide (qg_pop P 8 ≤ qg_pop (P &&& m) 8))
def qg_rh (kd p q : Int32) (m : Nat) : Bool := qg_rn kd.toBitVec.toNat p.toBitVec.toNat q.toBitVec.toNat m
def qg_ok (kd p q : Int32) : Prop := ∃ K P Q : Nat, kd = nI K ∧ p = nI P ∧ q = nI Q ∧ K < 4 ∧ P < 256 ∧ Q < 2 ^ 32 ∧ (K = 0 → Q < 256) ∧ (K = 1 → Q < 2) ∧ (K = 2 → Q < 5)
theorem qg_rh_n {K P Q m : Nat} (hK : K < 4) (hP : P < 256) (hQ : Q < 2 ^ 32) : qg_rh (nI K) (nI P) (nI Q) m = qg_rn K P Q m := by
  unfold qg_rh
  rw [pk_tn (by omega), pk_tn (by omega), pk_tn hQ]
/-! a set of rules -/
def qg_sel (mask : Int32) (i : Nat) : Bool := decide ((mask >>> (nI i &&& 31)) &&& 1 = 1)
theorem qg_a1 (x : Int32) : x &&& 1 = 1 ↔ bt x 0 = true := by
  have e : bt x 0 = decide (x.toBitVec.toNat % 2 = 1) := by
    unfold bt
    rw [BitVec.getLsbD, Nat.testBit_zero]
  rw [pk_and x 1 (by decide), e, decide_eq_true_eq]
  exact nI_eq (b := 1) (by omega) (by decide)
theorem qg_sel_bt (mask : Int32) {i : Nat} (hi : i < 32) : qg_sel mask i = bt mask i := by
  unfold qg_sel
  have e := b_sshr i hi mask (i := 0) (by decide)
  rw [if_pos (by omega), Nat.add_zero] at e
  rw [← e]
  cases h : bt (mask >>> (nI i &&& 31)) 0 with
  | true => exact decide_eq_true ((qg_a1 _).mpr h)
  | false => exact decide_eq_false (fun z => by rw [(qg_a1 _).mp z] at h; cases h)
def qg_H (kd p q : Nat → Int32) (c : Nat) (mask : Int32) (m : Nat) : Bool :=
  decide (∀ i, i < c → qg_sel mask i = true → qg_rh (kd i) (p i) (q i) m = true)
theorem qg_H_mono {kd p q : Nat → Int32} {c : Nat} {m1 m2 : Int32} {m : Nat} (h : ∀ i, i < c → qg_sel m2 i = true → qg_sel m1 i = true) (h1 : qg_H kd p q c m1 m = true) : qg_H kd p q c m2 m = true := by
  unfold qg_H at *
  rw [decide_eq_true_eq] at *
  exact fun i hi hs => h1 i hi (h i hi hs)
/-! the game -/
def qg_W (own : Nat → Int32) (H : Nat → Bool) : Nat → Nat → Bool
  | 0, x => H x
  | d + 1, x => if own (7 - d) = 0 then (qg_W own H d x || qg_W own H d (x + 2 ^ (7 - d))) else (qg_W own H d x && qg_W own H d (x + 2 ^ (7 - d)))
def qg_V (own : Nat → Int32) (H : Nat → Bool) (k x : Nat) : Bool := qg_W own H (8 - k) x
theorem qg_V8 (own : Nat → Int32) (H : Nat → Bool) (x : Nat) : qg_V own H 8 x = H x := rfl
theorem qg_Vk {own : Nat → Int32} {H : Nat → Bool} {k x : Nat} (hk : k < 8) : qg_V own H k x = if own k = 0 then (qg_V own H (k + 1) x || qg_V own H (k + 1) (x + 2 ^ k)) else (qg_V own H (k + 1) x && qg_V own H (k + 1) (x + 2 ^ k)) := by
  unfold qg_V
  have e : 8 - k = (8 - (k + 1)) + 1 := by omega
  have e2 : 7 - (8 - (k + 1)) = k := by omega
  rw [e, qg_W, e2]
/-! the search -/
def qg_rev (y : Nat) : Nat := y % 2 * 128 + y / 2 % 2 * 64 + y / 4 % 2 * 32 + y / 8 % 2 * 16 + y / 16 % 2 * 8 + y / 32 % 2 * 4 + y / 64 % 2 * 2 + y / 128 % 2
theorem qg_rev_lt (y : Nat) : qg_rev y < 256 := by
  unfold qg_rev
  omega
theorem qg_rev_up : ∀ v, v < 8 → ∀ y, y < 256 → y / 2 ^ v % 2 = 0 → qg_rev y < qg_rev (y % 2 ^ v + 2 ^ v) := by decide +kernel
theorem qg_md (y v : Nat) : y % 2 ^ (v + 1) = y % 2 ^ v + 2 ^ v * (y / 2 ^ v % 2) := Nat.mod_pow_succ
def qg_SI (own : Nat → Int32) (H : Nat → Bool) (k x y : Nat) : Prop :=
  y < 256 ∧ y % 2 ^ k = x ∧ ∀ v, k ≤ v → v < 8 → y / 2 ^ v % 2 = 1 → qg_V own H (v + 1) (y % 2 ^ v) = !decide (own v = 0)
theorem qg_S1 {own : Nat → Int32} {H : Nat → Bool} {v y : Nat} (hv : v < 8) (hb : y / 2 ^ v % 2 = 1) (h0 : qg_V own H (v + 1) (y % 2 ^ v) = !decide (own v = 0)) : qg_V own H (v + 1) (y % 2 ^ (v + 1)) = qg_V own H v (y % 2 ^ v) := by
  rw [qg_md, hb, Nat.mul_one, qg_Vk hv, h0]
  by_cases z : own v = 0
  · simp [z]
  · simp [z]
theorem qg_S0 {own : Nat → Int32} {H : Nat → Bool} {v y : Nat} (hv : v < 8) (hb : y / 2 ^ v % 2 = 0) (h0 : qg_V own H (v + 1) (y % 2 ^ (v + 1)) = decide (own v = 0)) : qg_V own H (v + 1) (y % 2 ^ (v + 1)) = qg_V own H v (y % 2 ^ v) := by
  have e : y % 2 ^ (v + 1) = y % 2 ^ v := by rw [qg_md, hb, Nat.mul_zero, Nat.add_zero]
  rw [e] at h0 ⊢
  rw [qg_Vk hv, h0]
  by_cases z : own v = 0
  · simp [z]
  · simp [z]
theorem qg_lm {u v : Nat} (y : Nat) (h : u ≤ v) : (y % 2 ^ v + 2 ^ v) % 2 ^ u = y % 2 ^ u := by
  obtain ⟨d, rfl⟩ : ∃ d, v = u + d := ⟨v - u, by omega⟩
  rw [Nat.pow_add, Nat.add_mul_mod_self_left, Nat.mod_mul_right_mod]
theorem qg_lb {u v : Nat} (y : Nat) (h : u < v) : (y % 2 ^ v + 2 ^ v) / 2 ^ u % 2 = y / 2 ^ u % 2 := by
  have a := qg_md (y % 2 ^ v + 2 ^ v) u
  have b := qg_md y u
  rw [qg_lm y (show u + 1 ≤ v from h), qg_lm y (Nat.le_of_lt h)] at a
  exact Nat.eq_of_mul_eq_mul_left (Nat.two_pow_pos u) (Nat.add_left_cancel (a.symm.trans b))
theorem qg_SN {own : Nat → Int32} {H : Nat → Bool} {k x v y : Nat} (hv : v < 8) (I : qg_SI own H k x y) (hk : k ≤ v) (hb : y / 2 ^ v % 2 = 0) (h0 : qg_V own H (v + 1) (y % 2 ^ (v + 1)) = !decide (own v = 0)) : qg_SI own H k x (y % 2 ^ v + 2 ^ v) := by
  obtain ⟨h1, h2, h3⟩ := I
  have hp : 2 ^ v ≤ 128 := Nat.pow_le_pow_right (n := 2) (by decide) (show v ≤ 7 by omega)
  have hm : y % 2 ^ v < 2 ^ v := Nat.mod_lt _ (Nat.two_pow_pos v)
  refine ⟨by omega, by rw [qg_lm y hk]; exact h2, ?_⟩
  intro u hu hu8 hbu
  rcases Nat.lt_trichotomy u v with z | z | z
  · rw [qg_lm y (Nat.le_of_lt z)]
    rw [qg_lb y z] at hbu
    exact h3 u hu hu8 hbu
  · subst z
    rw [qg_lm y (Nat.le_refl u)]
    have e : y % 2 ^ (u + 1) = y % 2 ^ u := by rw [qg_md, hb, Nat.mul_zero, Nat.add_zero]
    rw [e] at h0
    exact h0
  · have hle : 2 ^ (v + 1) ≤ 2 ^ u := Nat.pow_le_pow_right (n := 2) (by decide) z
    rw [Nat.pow_succ] at hle
    rw [Nat.div_eq_of_lt (by omega)] at hbu
    exact absurd hbu (by decide)
/-! counts and sets -/
def qg_cnt (f : Nat → Bool) : Nat → Nat
  | 0 => 0
  | n + 1 => qg_cnt f n + (if f n = true then 1 else 0)
theorem qg_cnt_n (f : Nat → Bool) : ∀ n, qg_cnt f n ≤ n
  | 0 => Nat.le_refl _
  | n + 1 => by
    have h := qg_cnt_n f n
    show qg_cnt f n + (if f n = true then 1 else 0) ≤ n + 1
    split <;> omega
theorem qg_cnt_le {f g : Nat → Bool} : ∀ n, (∀ x, x < n → f x = true → g x = true) → qg_cnt f n ≤ qg_cnt g n
  | 0, _ => Nat.le_refl _
  | n + 1, h => by
    have ih := qg_cnt_le n (fun x hx => h x (by omega))
    have h2 := h n (by omega)
    show qg_cnt f n + (if f n = true then 1 else 0) ≤ qg_cnt g n + (if g n = true then 1 else 0)
    revert h2
    cases f n <;> cases g n <;> simp <;> omega
theorem qg_cnt_eq {f g : Nat → Bool} : ∀ n, (∀ x, x < n → f x = true → g x = true) → (qg_cnt g n = qg_cnt f n ↔ ∀ x, x < n → g x = f x)
  | 0, _ => ⟨fun _ x hx => absurd hx (Nat.not_lt_zero x), fun _ => rfl⟩
  | n + 1, h => by
    have ih := qg_cnt_eq n (fun x hx => h x (by omega))
    have hl := qg_cnt_le n (fun x hx => h x (by omega))
    have h2 := h n (by omega)
    have eg : qg_cnt g (n + 1) = qg_cnt g n + (if g n = true then 1 else 0) := rfl
    have ef : qg_cnt f (n + 1) = qg_cnt f n + (if f n = true then 1 else 0) := rfl
    rw [eg, ef]
    constructor
    · intro e x hx
      have a : g n = f n ∧ qg_cnt g n = qg_cnt f n := by
        revert h2 e
        cases f n <;> cases g n <;> simp <;> omega
      rcases Nat.lt_or_ge x n with z | z
      · exact ih.mp a.2 x z
      · have e2 : x = n := by omega
        rw [e2]; exact a.1
    · intro e
      rw [e n (by omega), ih.mpr (fun x hx => e x (by omega))]
def qg_set (f : Nat → Bool) : Nat → Int32
  | 0 => 0
  | v + 1 => if f v = true then qg_set f v ||| ((1 : Int32) <<< (nI v &&& 31)) else qg_set f v
def qg_bm (wf : Int32 → Bool) (m0 : Int32) : Nat → Int32
  | 0 => m0
  | i + 1 => if wf (qg_bm wf m0 i &&& (((1 : Int32) <<< (nI i &&& 31)) ^^^ (-1))) = true then qg_bm wf m0 i else qg_bm wf m0 i &&& (((1 : Int32) <<< (nI i &&& 31)) ^^^ (-1))
def qg_ch (own : Nat → Int32) (V : Nat → Nat → Bool) (k x : Nat) : Int32 :=
  if V (k + 1) x = decide (own k = 0) then 0 else if V (k + 1) (x + 2 ^ k) = decide (own k = 0) then 1 else (-3)
def qg_dv (own : Nat → Int32) (V : Nat → Nat → Bool) : Nat → Nat
  | 0 => 0
  | k + 1 => if qg_ch own V k (qg_dv own V k) = 1 then qg_dv own V k + 2 ^ k else qg_dv own V k
theorem qg_dv_lt (own : Nat → Int32) (V : Nat → Nat → Bool) : ∀ k, qg_dv own V k < 2 ^ k
  | 0 => Nat.lt_succ_self 0
  | k + 1 => by
    have h := qg_dv_lt own V k
    show (if qg_ch own V k (qg_dv own V k) = 1 then qg_dv own V k + 2 ^ k else qg_dv own V k) < 2 ^ (k + 1)
    rw [Nat.pow_succ]
    split <;> omega
def qg_eqs (n : Nat) (f g : Nat → Bool) : Bool := decide (∀ x, x < n → f x = g x)
theorem qg_eqs_t {n : Nat} {f g : Nat → Bool} (h : ∀ x, x < n → f x = g x) : qg_eqs n f g = true := decide_eq_true h
theorem qg_eqs_f {n x : Nat} {f g : Nat → Bool} (hx : x < n) (h : ¬ f x = g x) : qg_eqs n f g = false := decide_eq_false (fun z => h (z x hx))
def qg_D (H : Nat → Bool) (k x : Nat) : Bool := qg_eqs (2 ^ (8 - k)) (fun r => H (x + r * 2 ^ k)) (fun _ => H x)
def qg_dr (D : Nat → Bool) : Nat → Nat
  | 0 => 8
  | d + 1 => if D (7 - d) = true then 7 - d else qg_dr D d
def qg_fr (own : Nat → Int32) : Nat → Nat
  | 0 => 8
  | d + 1 => if own (7 - d) = own 0 then qg_fr own d else 7 - d
theorem qg_fr_le (own : Nat → Int32) : ∀ d, qg_fr own d ≤ 8
  | 0 => Nat.le_refl _
  | d + 1 => by
    have h := qg_fr_le own d
    show (if own (7 - d) = own 0 then qg_fr own d else 7 - d) ≤ 8
    split <;> omega
theorem qg_fr_8 (own : Nat → Int32) : qg_fr own 8 = qg_fr own 7 := if_pos rfl
def qg_I (H : Nat → Bool) (v : Nat) : Bool := qg_eqs 256 H (fun x => H (x ^^^ 2 ^ v))
