/-! the component: what is asked, and the answers of the two questions -/
theorem qg_H_s (kd p q : Nat → Int32) (i : Nat) (mask : Int32) (m : Nat) : qg_H kd p q (i + 1) mask m = (qg_H kd p q i mask m && (!qg_sel mask i || qg_rh (kd i) (p i) (q i) m)) := by
  unfold qg_H
  have e : (∀ j, j < i + 1 → qg_sel mask j = true → qg_rh (kd j) (p j) (q j) m = true) ↔ ((∀ j, j < i → qg_sel mask j = true → qg_rh (kd j) (p j) (q j) m = true) ∧ (qg_sel mask i = true → qg_rh (kd i) (p i) (q i) m = true)) :=
    ⟨fun h => ⟨fun j hj => h j (by omega), h i (by omega)⟩, fun h j hj => (Nat.lt_or_ge j i).elim (h.1 j) (fun z => by
      have e : j = i := by omega
      subst e
      exact h.2)⟩
  rw [decide_eq_decide.mpr e, Bool.decide_and]
  congr 1
  generalize qg_sel mask i = a
  generalize qg_rh (kd i) (p i) (q i) m = b
  cases a <;> cases b <;> rfl
def qg_Inv (c : Nat) (kd fp sq sz : Nat → Int32) (co : Nat → Int64) : Prop := c ≤ 12 ∧ (∀ i, i < c → qg_ok (kd i) (fp i) (sq i)) ∧ (∀ s, s < 256 → sz s = nI (qg_pop s 8)) ∧ qg_col co
def qg_Rd (cw : Int32) (wn : Nat → Int32) (ho : Nat → Int64) (ow : Nat → Int32) (H : Nat → Bool) : Prop := (cw = 1 → qg_T ow H wn 0) ∧ (cw = 2 → ∀ x, x < 256 → qg_fb ho x = H x)
def qg_cw (cw : Int32) : Prop := cw = 0 ∨ cw = 1 ∨ cw = 2
def qg_all (c : Nat) : Int32 := ((1 : Int32) <<< (nI c &&& 31)) - 1
section
variable {rc cw ak : Int32} {ow kd fp sq sz wn : Nat → Int32} {co ho fo al : Nat → Int64}
theorem qg_X_fh14 {post : SX → Prop} {J : Int32 → Int32 → Int32 → Int32 → (Nat → Int32) → (Nat → Int32) → (Nat → Int32) → (Nat → Int32) → (Nat → Int32) → (Nat → Int32) → (Nat → Int64) → (Nat → Int64) → (Nat → Int64) → (Nat → Int64) → Prop} {c w : Nat} (hI : qg_Inv c kd fp sq sz co) (hw : w < 4)
    (hp : ∀ r al', (∀ b, b < 64 → qg_l r b = qg_H kd fp sq c ak (64 * w + b)) → J (nI (w + 1)) (nI c) cw ak ow kd fp sq sz wn co (vp_updL ho w r) fo al') : ∃ n, wX_fillHolding_14 post J (nI w) n (-1) 0 (nI c) cw ak ow kd fp sq sz wn co ho fo al := by
  obtain ⟨hc, hok, hsz, hco⟩ := hI
  refine pk_loop (σ := Int64 × (Nat → Int64)) (fun n i s => wX_fillHolding_14 post J (nI w) n s.1 (nI i) (nI c) cw ak ow kd fp sq sz wn co ho fo s.2) (fun i s => ∀ b, b < 64 → qg_l s.1 b = qg_H kd fp sq i ak (64 * w + b)) c 0 (-1, al) (Nat.zero_le _) ?_ ?_ ?_
  · intro b hb
    rw [qg_l_m1 b hb]
    exact (decide_eq_true (fun j hj => absurd hj (Nat.not_lt_zero j))).symm
  · intro n s hs
    refine br_t (nI_le (Nat.le_refl c) (by omega)) ?_
    rw [nI_clamp (show w < 2 ^ 31 by omega)]
    exact ⟨vp_in_nI hw (by decide), nm_e (nm_r (nI_1 w) (hp _ _ hs))⟩
  · intro n i s hi hs hn
    refine br_f (nI_ge hi (by omega)) (ek_if (qg_selI ak i) (fun z => ?_) (fun z => ?_))
    · refine qg_X_ruleWord (by omega) hw (hok i hi) hsz hco (fun r al' g => ?_)
      refine nm_e (nm_r (nI_1 i) (hn (s.1 &&& r, al') ?_))
      intro b hb
      show qg_l (s.1 &&& r) b = _
      rw [qg_l_and, hs b hb, g b hb, qg_H_s, z]
      rfl
    · refine nm_r (nI_1 i) (hn s ?_)
      intro b hb
      rw [hs b hb, qg_H_s, ts_nt z]
      cases qg_H kd fp sq i ak (64 * w + b) <;> rfl
theorem qg_X_fillHolding {post : SX → Prop} {c : Nat} (hI : qg_Inv c kd fp sq sz co)
    (hp : ∀ ho' al', (∀ x, x < 256 → qg_fb ho' x = qg_H kd fp sq c ak x) → post ((nI c), cw, ak, ow, kd, fp, sq, sz, wn, co, ho', fo, al')) : wpX_fillHolding post ((nI c), cw, ak, ow, kd, fp, sq, sz, wn, co, ho, fo, al) := by
  unfold wpX_fillHolding
  dsimp only
  refine pk_loop (σ := (Nat → Int64) × (Nat → Int64)) (fun n w s => wX_fillHolding_2 post n (nI w) (nI c) cw ak ow kd fp sq sz wn co s.1 fo s.2) (fun w s => ∀ w' b, w' < w → b < 64 → qg_l (s.1 w') b = qg_H kd fp sq c ak (64 * w' + b)) 4 0 (ho, al) (Nat.zero_le _) (fun w' b h => absurd h (Nat.not_lt_zero w')) ?_ ?_
  · intro n s hs
    refine br_t (by decide) (hp _ _ (fun x hx => ?_))
    unfold qg_fb
    rw [hs (x / 64) (x % 64) (by omega) (by omega), Nat.div_add_mod]
  · intro n w s hw hs hn
    refine br_f (nI_ge (b := 4) hw (by decide)) (qg_X_fh14 hI hw (fun r al' g => hn (vp_updL s.1 w r, al') ?_))
    intro w' b hw' hb
    show qg_l (vp_updL s.1 w r w') b = _
    by_cases z : w' = w
    · rw [z, pk_uLs]
      exact g b hb
    · rw [pk_uLn z]
      exact hs w' b (by omega) hb
theorem qg_X_ask {post : SX → Prop} {c : Nat} (hI : qg_Inv c kd fp sq sz co) (hw : qg_cw cw) (mask : Int32)
    (hp : ∀ wn' ho' al', qg_Rd cw wn' ho' ow (qg_H kd fp sq c mask) → post ((nI c), cw, mask, ow, kd, fp, sq, sz, wn', co, ho', fo, al')) : wpX_ask post ((nI c), cw, ak, ow, kd, fp, sq, sz, wn, co, ho, fo, al) mask := by
  unfold wpX_ask
  dsimp only
  rcases hw with rfl | rfl | rfl
  · exact br_f (by decide) (br_f (by decide) (hp wn ho al ⟨fun z => absurd z (by decide), fun z => absurd z (by decide)⟩))
  · exact br_t rfl (qg_X_fillTable hI.1 hI.2.1 hI.2.2.1 (fun wn' h => hp wn' ho al ⟨fun _ => h, fun z => absurd z (by decide)⟩))
  · exact br_f (by decide) (br_t rfl (qg_X_fillHolding hI (fun ho' al' h => hp wn ho' al' ⟨fun z => absurd z (by decide), fun _ => h⟩)))
theorem qg_X_askAll {post : SX → Prop} {c : Nat} (hI : qg_Inv c kd fp sq sz co) (hw : qg_cw cw)
    (hp : ∀ wn' ho' al', qg_Rd cw wn' ho' ow (qg_H kd fp sq c (qg_all c)) → post ((nI c), cw, (qg_all c), ow, kd, fp, sq, sz, wn', co, ho', fo, al')) : wpX_askAll post ((nI c), cw, ak, ow, kd, fp, sq, sz, wn, co, ho, fo, al) := by
  unfold wpX_askAll wpX_allRules
  dsimp only
  exact qg_X_ask hI hw (qg_all c) hp
theorem qg_X_rh {post : Int32 → Prop} {c x : Nat} (hI : qg_Inv c kd fp sq sz co) (hw : qg_cw cw) (hR : qg_Rd cw wn ho ow (qg_H kd fp sq c ak)) (hx : x < 256) (hp : post (qg_b (qg_H kd fp sq c ak x))) : wpX_rulesHold post ((nI c), cw, ak, ow, kd, fp, sq, sz, wn, co, ho, fo, al) (nI x) := by
  unfold wpX_rulesHold
  dsimp only
  rcases hw with rfl | rfl | rfl
  · exact br_t rfl (qg_X_hobo hI.1 hI.2.1 hI.2.2.1 ⟨qg_narrow _, hp⟩)
  · refine br_f (by decide) (br_t rfl ?_)
    have h : wn (256 + x) = qg_b (qg_H kd fp sq c ak x) := hR.1 rfl 8 x (by omega) (Nat.le_refl 8) hx
    have e : 256 + nI x = nI (256 + x) := nI_add 256 x
    rw [e, nI_clamp (show 256 + x < 2 ^ 31 by omega), h]
    exact ⟨vp_in_nI (by omega) (by decide), qg_narrow _, hp⟩
  · refine br_f (by decide) (br_f (by decide) ?_)
    have h := hR.2 rfl x hx
    unfold qg_fb at h
    rw [qg_sh6 (show x < 2 ^ 31 by omega), qg_a63 (show x < 2 ^ 31 by omega), nI_clamp (show x / 64 < 2 ^ 31 by omega)]
    refine ⟨vp_in_nI (by omega) (by decide), ek_if (qg_l_t (show x % 64 < 64 by omega) _) (fun z => ?_) (fun z => ?_)⟩
    · rw [← h, z] at hp
      exact hp
    · rw [← h, ts_nt z] at hp
      exact hp
/-! by search -/
theorem qg_zb (y v : Nat) : y % 2 ^ (v + 1) / 2 ^ v % 2 = y / 2 ^ v % 2 := by
  rw [qg_md, Nat.add_mul_div_left _ _ (Nat.two_pow_pos v), Nat.div_eq_of_lt (Nat.mod_lt _ (Nat.two_pow_pos v)), Nat.zero_add, Nat.mod_mod]
theorem qg_zm (y v : Nat) : y % 2 ^ (v + 1) % 2 ^ v = y % 2 ^ v := by
  rw [Nat.pow_succ, Nat.mod_mul_right_mod]
theorem qg_dnlt {k : Nat} (hk : k ≤ 8) : nI k + (-1) < nI k := by
  cases k with
  | zero => decide
  | succ k =>
    rw [pk_m1]
    exact nI_lt (by omega) (by omega)
theorem qg_X_s27 {post : Int32 → Prop} {J : Int32 → Int32 → Int32 → Prop} {H : Nat → Bool} {k x y : Nat} {x5 : Int32} (hk : k ≤ 8) (hS : qg_SI ow H k x y) (hp : post (qg_b (qg_V ow H k x)))
    (hJ : ∀ y', qg_SI ow H k x y' → qg_rev y < qg_rev y' → J (nI y') (qg_b (H y)) (x5 + 1)) : ∃ n, wX_winBySearch_27 post J (nI k) (qg_b (H y)) x5 rc cw ak ow kd fp sq sz wn co ho fo al n (nI y) 7 := by
  have hy := hS.1
  have out : ∀ n, H y = qg_V ow H k (y % 2 ^ k) → wX_winBySearch_27 post J (nI k) (qg_b (H y)) x5 rc cw ak ow kd fp sq sz wn co ho fo al (n + 1) (nI (y % 2 ^ k)) (nI k + (-1)) := by
    intro n e
    have hd := qg_dnlt hk
    refine br_t hd (br_f (Int32.not_le.mpr hd) ⟨qg_narrow _, ?_⟩)
    rw [e, hS.2.1]
    exact hp
  have h : wX_winBySearch_27 post J (nI k) (qg_b (H y)) x5 rc cw ak ow kd fp sq sz wn co ho fo al 9 (nI (y % 2 ^ 8)) (nI 8 + (-1)) := by
    refine pk_loopD (σ := Unit) (fun n j _ => wX_winBySearch_27 post J (nI k) (qg_b (H y)) x5 rc cw ak ow kd fp sq sz wn co ho fo al n (nI (y % 2 ^ j)) (nI j + (-1))) (fun j _ => k ≤ j ∧ j ≤ 8 ∧ H y = qg_V ow H j (y % 2 ^ j)) ?_ ?_ 8 () ⟨hk, Nat.le_refl 8, ?_⟩
    · intro n _ hI
      have e : k = 0 := by omega
      subst e
      exact out n hI.2.2
    · intro n j _ hI hn
      by_cases z : k = j + 1
      · subst z
        exact out n hI.2.2
      · have hkj : k ≤ j := by omega
        have hj8 : j < 8 := by omega
        show wX_winBySearch_27 post J (nI k) (qg_b (H y)) x5 rc cw ak ow kd fp sq sz wn co ho fo al (n + 1) (nI (y % 2 ^ (j + 1))) (nI (j + 1) + (-1))
        rw [pk_m1]
        have hp2 := qg_p2 (show j + 1 ≤ 8 by omega)
        have hz : y % 2 ^ (j + 1) < 2 ^ (j + 1) := Nat.mod_lt _ (Nat.two_pow_pos _)
        have ht : ((nI (y % 2 ^ (j + 1)) >>> (nI j &&& 31)) &&& 1) = 1 ↔ y / 2 ^ j % 2 = 1 := by
          rw [← qg_zb]
          exact qg_t1 (by omega) (by omega)
        have go : H y = qg_V ow H j (y % 2 ^ j) → wX_winBySearch_63 post J (wX_winBySearch_27 post J (nI k) (qg_b (H y)) x5 rc cw ak ow kd fp sq sz wn co ho fo al n) (nI k) (nI (y % 2 ^ (j + 1))) (qg_b (H y)) x5 (nI j) rc cw ak ow kd fp sq sz wn co ho fo al := by
          intro e
          refine nm_r (qg_clr j hj8 _ hz) (nm_e ?_)
          rw [qg_zm]
          exact hn () ⟨hkj, by omega, e⟩
        refine br_f (nI_nlt hkj (by omega)) (ek_if ht (fun hb => ?_) (fun hb => ?_))
        · exact go (hI.2.2.trans (qg_S1 hj8 hb (hS.2.2 j hkj hj8 hb)))
        · have hb0 : y / 2 ^ j % 2 = 0 := by
            have h2 : y / 2 ^ j % 2 < 2 := Nat.mod_lt _ (by decide)
            generalize y / 2 ^ j % 2 = q at *
            omega
          have em : y % 2 ^ (j + 1) = y % 2 ^ j := by rw [qg_md, hb0, Nat.mul_zero, Nat.add_zero]
          have st : H y = !decide (ow j = 0) → wX_winBySearch_78 post J (nI k) (nI (y % 2 ^ (j + 1))) (qg_b (H y)) x5 (nI j) rc cw ak ow kd fp sq sz wn co ho fo al := by
            intro e
            have hlt : y % 2 ^ j < 2 ^ j := Nat.mod_lt _ (Nat.two_pow_pos j)
            refine br_t (nI_le hkj (by omega)) ?_
            rw [em]
            refine nm_r (qg_or hj8 hlt) (nm_e (hJ _ (qg_SN hj8 hS hkj hb0 (hI.2.2.symm.trans e)) (qg_rev_up j hj8 y hy hb0)))
          rw [nI_clamp (show j < 2 ^ 31 by omega)]
          refine ⟨vp_in_nI hj8 (by decide), ?_⟩
          by_cases w : ow j = 0
          · refine br_t w (ek_if (qg_b_1 (H y)) (fun e => go (hI.2.2.trans (qg_S0 hj8 hb0 ?_))) (fun e => st ?_))
            · rw [← hI.2.2, e, decide_eq_true w]
            · rw [ts_nt e, decide_eq_true w]; rfl
          · refine br_f w (ek_if (qg_b_0 (H y)) (fun e => go (hI.2.2.trans (qg_S0 hj8 hb0 ?_))) (fun e => st ?_))
            · rw [← hI.2.2, e, decide_eq_false w]
            · rw [ts_nf e, decide_eq_false w]; rfl
    · rw [Nat.mod_eq_of_lt (show y < 2 ^ 8 from hy)]
      rfl
  rw [Nat.mod_eq_of_lt (show y < 2 ^ 8 from hy)] at h
  exact ⟨9, h⟩
theorem qg_X_search {post : Int32 → Prop} {c k x : Nat} (hI : qg_Inv c kd fp sq sz co) (hk : k ≤ 8) (hx : x < 2 ^ k) (hp : post (qg_b (qg_V ow (qg_H kd fp sq c ak) k x))) : wpX_winBySearch post ((nI c), cw, ak, ow, kd, fp, sq, sz, wn, co, ho, fo, al) (nI k) (nI x) := by
  have hp2 := qg_p2 hk
  unfold wpX_winBySearch
  dsimp only
  refine pk_loop (σ := Nat × Int32) (fun n g s => wX_winBySearch_8 post (nI k) (nI c) cw ak ow kd fp sq sz wn co ho fo al n (nI s.1) s.2 (nI g)) (fun g s => qg_SI ow (qg_H kd fp sq c ak) k x s.1 ∧ g ≤ qg_rev s.1) 256 0 (x, 0) (Nat.zero_le _) ⟨⟨by omega, Nat.mod_eq_of_lt hx, ?_⟩, Nat.zero_le _⟩ ?_ ?_
  · intro v hv hv8 hb
    have hle : 2 ^ k ≤ 2 ^ v := Nat.pow_le_pow_right (n := 2) (by decide) hv
    rw [Nat.div_eq_of_lt (by omega)] at hb
    exact absurd hb (by decide)
  · intro n s hs
    have h2 := qg_rev_lt s.1
    have h3 := hs.2
    exact absurd h3 (by omega)
  · intro n g s hg hs hn
    refine br_f (nI_ge (b := 256) hg (by decide)) (qg_X_hobo hI.1 hI.2.1 hI.2.2.1 ?_)
    refine qg_X_s27 hk hs.1 hp (fun y' h1 h2 => ?_)
    rw [nI_1]
    have h3 := hs.2
    exact hn (y', _) ⟨h1, Nat.lt_of_le_of_lt h3 h2⟩
end
