/-! the component: its public methods -/
theorem qg_dr_s {D : Nat → Bool} : ∀ k d, k + d = 8 → (∀ j, j < k → D j = false) → qg_dr D 8 = qg_dr D d
  | 0, d, h, _ => by
    have e : d = 8 := by omega
    rw [e]
  | k + 1, d, h, hf => by
    rw [qg_dr_s k (d + 1) (by omega) (fun j hj => hf j (by omega))]
    show (if D (7 - d) = true then 7 - d else qg_dr D d) = qg_dr D d
    have e : 7 - d = k := by omega
    rw [e, hf k (by omega), if_neg (by decide)]
theorem qg_dr_at {D : Nat → Bool} {k : Nat} (hk : k < 8) (h : ∀ j, j < k → D j = false) (hD : D k = true) : qg_dr D 8 = k := by
  obtain ⟨d, hd⟩ : ∃ d, k + (d + 1) = 8 := ⟨7 - k, by omega⟩
  rw [qg_dr_s k (d + 1) hd h]
  show (if D (7 - d) = true then 7 - d else qg_dr D d) = k
  have e : 7 - d = k := by omega
  rw [e, hD, if_pos rfl]
theorem qg_dr_8 {D : Nat → Bool} (h : ∀ j, j < 8 → D j = false) : qg_dr D 8 = 8 := qg_dr_s 8 0 rfl h
theorem qg_less {kd p q : Nat → Int32} {c i : Nat} (hc : c ≤ 12) (m1 m2 : Int32) {m : Nat} (h1 : qg_H kd p q c m1 m = true) : qg_H kd p q c (m1 &&& m2) m = true := by
  refine qg_H_mono (m1 := m1) (fun j hj hs => ?_) h1
  rw [qg_sel_bt _ (by omega), b_and] at hs
  rw [qg_sel_bt _ (by omega)]
  cases hz : bt m1 j with
  | true => rfl
  | false => rw [hz] at hs; cases hs
section
variable {rc cw ak : Int32} {ow kd fp sq sz wn : Nat → Int32} {co ho fo al : Nat → Int64}
theorem qg_X_fillSizes {post : SX → Prop} (hp : ∀ sz', (∀ s, s < 256 → sz' s = nI (qg_pop s 8)) → post (rc, cw, ak, ow, kd, fp, sq, sz', wn, co, ho, fo, al)) : wpX_fillSizes post (rc, cw, ak, ow, kd, fp, sq, sz, wn, co, ho, fo, al) := by
  unfold wpX_fillSizes
  dsimp only
  refine nm_e ?_
  refine pk_loop (σ := Nat → Int32) (fun n i f => wX_fillSizes_9 post rc cw ak n (nI i) ow kd fp sq f wn co ho fo al) (fun i f => 1 ≤ i ∧ ∀ s, s < i → f s = nI (qg_pop s 8)) 256 1 _ (by decide) ⟨Nat.le_refl 1, fun s hs => ?_⟩ ?_ ?_
  · have e : s = 0 := by omega
    rw [e, pk_us]
    rfl
  · intro n f h
    exact br_t (by decide) (hp f h.2)
  · intro n i f hi h hn
    have h1 := h.1
    have e1 : nI i >>> ((1 : Int32) &&& 31) = nI (i / 2) := pk_shrN (by omega) _ 1 (by decide)
    have e2 : nI i &&& 1 = nI (i % 2) := pk_andN (by omega) 1 (by decide)
    refine br_f (nI_ge (b := 256) hi (by decide)) ?_
    rw [e1, e2, nI_clamp (show i / 2 < 2 ^ 31 by omega), nI_clamp (show i < 2 ^ 31 by omega), h.2 (i / 2) (by omega), nI_add]
    refine ⟨vp_in_nI (by omega) (by decide), vp_in_nI hi (by decide), nm_e (nm_r (nI_1 i) (hn _ ⟨by omega, fun s hs => ?_⟩))⟩
    by_cases z : s = i
    · rw [z, pk_us, qg_pop_half i hi]
    · rw [pk_un z]
      exact h.2 s (by omega)
def qg_cI (v x : Nat) (f : Nat → Int64) : Prop := ∀ v' w b, v' < 8 → w < 4 → b < 64 → qg_l (f (v' * 4 + w)) b = ((64 * w + b).testBit v' && decide (v' < v ∨ (v' = v ∧ 64 * w + b < x)))
theorem qg_X_fillColumns {post : SX → Prop} (h0 : ∀ j, co j = 0) (hp : ∀ co', qg_col co' → post (rc, cw, ak, ow, kd, fp, sq, sz, wn, co', ho, fo, al)) : wpX_fillColumns post (rc, cw, ak, ow, kd, fp, sq, sz, wn, co, ho, fo, al) := by
  unfold wpX_fillColumns
  dsimp only
  refine pk_loop (σ := Nat → Int64) (fun n v f => wX_fillColumns_2 post rc cw ak n (nI v) ow kd fp sq sz wn f ho fo al) (fun v f => qg_cI v 0 f) 8 0 co (Nat.zero_le _) ?_ ?_ ?_
  · intro v' w b _ _ _
    rw [h0, qg_l_0, decide_eq_false (by omega), Bool.and_false]
  · intro n f h
    refine br_t (by decide) (hp f (fun v w b hv hw hb => ?_))
    rw [h v w b hv hw hb, decide_eq_true (Or.inl hv), Bool.and_true]
  · intro n v f hv h hn
    refine br_f (nI_ge (b := 8) hv (by decide)) ?_
    refine pk_loop (σ := Nat → Int64) (fun n2 x f => wX_fillColumns_10 post (wX_fillColumns_2 post rc cw ak n) (nI v) rc cw ak n2 (nI x) ow kd fp sq sz wn f ho fo al) (fun x f => qg_cI v x f) 256 0 f (Nat.zero_le _) h ?_ ?_
    · intro n2 f hf
      refine br_t (by decide) (nm_r (nI_1 v) (hn f (fun v' w b hv' hw hb => ?_)))
      rw [hf v' w b hv' hw hb]
      congr 1
      exact decide_eq_decide.mpr (by omega)
    · intro n2 x f hx hf hn2
      have e6 : nI x >>> ((6 : Int32) &&& 31) = nI (x / 64) := qg_sh6 (by omega)
      have e63 : nI x &&& 63 = nI (x % 64) := qg_a63 (by omega)
      have e4 : nI v * 4 + nI (x / 64) = nI (v * 4 + x / 64) := by
        show nI v * nI 4 + nI (x / 64) = _
        rw [pk_mul, nI_add]
      refine br_f (nI_ge (b := 256) hx (by decide)) (ek_if (qg_t1 (by omega) (by omega)) (fun z => ?_) (fun z => ?_))
      · rw [e6, e63, e4, nI_clamp (show v * 4 + x / 64 < 2 ^ 31 by omega)]
        refine ⟨vp_in_nI (by omega) (by decide), vp_in_nI (by omega) (by decide), nm_e (nm_r (nI_1 x) (hn2 _ (fun v' w b hv' hw hb => ?_)))⟩
        by_cases y : v' * 4 + w = v * 4 + x / 64
        · have ev : v' = v := by omega
          have ew : w = x / 64 := by omega
          subst ev
          rw [y, pk_uLs, qg_l_or, ← y, hf v' w b hv hw hb, qg_l_shl _ (show x % 64 < 64 by omega) b hb]
          by_cases q : b = x % 64
          · have ex : 64 * w + b = x := by omega
            rw [decide_eq_true q, Bool.or_true, ex, (qg_tb x v').mpr z, decide_eq_true (show v' < v' ∨ (v' = v' ∧ x < x + 1) by omega)]
            rfl
          · rw [decide_eq_false q, Bool.or_false]
            congr 1
            exact decide_eq_decide.mpr (by omega)
        · rw [pk_uLn y, hf v' w b hv' hw hb]
          congr 1
          exact decide_eq_decide.mpr (by omega)
      · refine nm_r (nI_1 x) (hn2 f (fun v' w b hv' hw hb => ?_))
        rw [hf v' w b hv' hw hb]
        by_cases y : v' = v ∧ 64 * w + b = x
        · have e : (64 * w + b).testBit v' = false := by
            cases q : (64 * w + b).testBit v' with
            | false => rfl
            | true =>
              rw [y.1, y.2] at q
              exact absurd ((qg_tb x v).mp q) z
          rw [e]
          rfl
        · congr 1
          exact decide_eq_decide.mpr (by omega)
theorem qg_upd0 (i : Nat) : upd (fun _ => 0) i 0 = fun _ => 0 := by
  funext j
  unfold upd
  split <;> rfl
theorem qg_X_init {post : SX → Prop} (hp : ∀ sz' co', (∀ s, s < 256 → sz' s = nI (qg_pop s 8)) → qg_col co' → post (0, 2, 0, (fun _ => 0), (fun _ => 0), (fun _ => 0), (fun _ => 0), sz', (fun _ => 0), co', (fun _ => 0), (fun _ => 0), (fun _ => 0))) : wpX_init post := by
  unfold wpX_init
  refine pk_loop (σ := Nat → Int32) (fun n i f => wX_init_101 post 0 2 0 n (nI i) f (fun _ => 0) (fun _ => 0) (fun _ => 0) (fun _ => 0) (fun _ => 0) (fun _ => 0) (fun _ => 0) (fun _ => 0) (fun _ => 0)) (fun i f => f = fun _ => 0) 8 0 _ (Nat.zero_le _) rfl ?_ ?_
  · intro n f h
    subst h
    exact br_t (by decide) (qg_X_fillSizes (fun sz' h1 => qg_X_fillColumns (fun _ => rfl) (fun co' h2 => hp sz' co' h1 h2)))
  · intro n i f hi h hn
    subst h
    refine br_f (nI_ge (b := 8) hi (by decide)) ?_
    rw [nI_clamp (show i < 2 ^ 31 by omega)]
    exact ⟨vp_in_nI hi (by decide), nm_e (nm_r (nI_1 i) (hn _ (qg_upd0 i)))⟩
theorem qg_X_count {post : Int32 → SX → Prop} {c : Nat} (hI : qg_Inv c kd fp sq sz co) (hw : qg_cw cw)
    (hp : ∀ ak' wn' ho' al', post (nI (qg_cnt (qg_H kd fp sq c (qg_all c)) 256)) ((nI c), cw, ak', ow, kd, fp, sq, sz, wn', co, ho', fo, al')) : wpX_count post ((nI c), cw, ak, ow, kd, fp, sq, sz, wn, co, ho, fo, al) := by
  unfold wpX_count
  dsimp only
  exact qg_X_askAll hI hw (fun wn' ho' al' hR => qg_X_hl hI hw hR (hp _ wn' ho' al'))
theorem qg_X_idle {post : Int32 → SX → Prop} {c : Nat} (hI : qg_Inv c kd fp sq sz co) (hw : qg_cw cw)
    (hp : ∀ ak' wn' ho' al', post (qg_set (qg_I (qg_H kd fp sq c (qg_all c))) 8) ((nI c), cw, ak', ow, kd, fp, sq, sz, wn', co, ho', fo, al')) : wpX_idle post ((nI c), cw, ak, ow, kd, fp, sq, sz, wn, co, ho, fo, al) := by
  unfold wpX_idle
  dsimp only
  refine qg_X_askAll hI hw (fun wn' ho' al' hR => ?_)
  refine pk_loop (σ := Unit) (fun n v _ => wX_idle_8 post (nI c) cw (qg_all c) ow kd fp sq sz wn' co ho' fo al' n (qg_set (qg_I (qg_H kd fp sq c (qg_all c))) v) (nI v)) (fun _ _ => True) 8 0 () (Nat.zero_le _) trivial ?_ ?_
  · intro n _ _
    exact br_t (by decide) (hp _ wn' ho' al')
  · intro n v _ hv _ hn
    refine br_f (nI_ge (b := 8) hv (by decide)) (qg_X_isIdle hI hw hR hv ?_)
    have e : qg_set (qg_I (qg_H kd fp sq c (qg_all c))) (v + 1) = if qg_I (qg_H kd fp sq c (qg_all c)) v = true then qg_set (qg_I (qg_H kd fp sq c (qg_all c))) v ||| ((1 : Int32) <<< (nI v &&& 31)) else qg_set (qg_I (qg_H kd fp sq c (qg_all c))) v := rfl
    have h := hn () trivial
    cases hz : qg_I (qg_H kd fp sq c (qg_all c)) v with
    | false =>
      rw [e, hz, if_neg (by decide)] at h
      exact br_t rfl (nm_r (nI_1 v) h)
    | true =>
      rw [e, hz, if_pos rfl] at h
      exact br_f (by decide) (nm_e (nm_r (nI_1 v) h))
theorem qg_X_openings {post : Int32 → SX → Prop} {c : Nat} (hI : qg_Inv c kd fp sq sz co) (hw : qg_cw cw)
    (hp : ∀ ak' wn' ho' fo' al', post (nI (qg_cnt (qg_V ow (qg_H kd fp sq c (qg_all c)) (qg_fr ow 7)) (2 ^ qg_fr ow 7))) ((nI c), cw, ak', ow, kd, fp, sq, sz, wn', co, ho', fo', al')) : wpX_openings post ((nI c), cw, ak, ow, kd, fp, sq, sz, wn, co, ho, fo, al) := by
  unfold wpX_openings
  dsimp only
  refine qg_X_askAll hI hw (fun wn' ho' al' hR => ?_)
  have hp' := hp (qg_all c) wn' ho'
  have hk := qg_fr_le ow 7
  refine qg_X_firstRun ?_
  revert hk hp'
  generalize qg_fr ow 7 = k
  intro hp' hk
  have hk2 := qg_p2 hk
  refine pk_loop (σ := Nat → Int64) (fun n i f => wX_openings_13 post (nI k) n (nI (qg_cnt (qg_V ow (qg_H kd fp sq c (qg_all c)) k) i)) (nI i) (nI c) cw (qg_all c) ow kd fp sq sz wn' co ho' f al') (fun _ _ => True) (2 ^ k) 0 fo (Nat.zero_le _) trivial ?_ ?_
  · intro n f _
    refine br_t ?_ (hp' f al')
    rw [qg_1s k (by omega)]
    exact nI_le (Nat.le_refl _) (by omega)
  · intro n i f hi _ hn
    refine br_f ?_ (qg_X_win hI hw hR hk hi (fun fo' => ?_))
    · rw [qg_1s k (by omega)]
      exact nI_ge hi (by omega)
    · have e : qg_cnt (qg_V ow (qg_H kd fp sq c (qg_all c)) k) (i + 1) = qg_cnt (qg_V ow (qg_H kd fp sq c (qg_all c)) k) i + (if qg_V ow (qg_H kd fp sq c (qg_all c)) k i = true then 1 else 0) := rfl
      have h := hn fo' trivial
      cases hz : qg_V ow (qg_H kd fp sq c (qg_all c)) k i with
      | false =>
        rw [e, hz, if_neg (by decide), Nat.add_zero] at h
        exact br_t rfl (nm_r (nI_1 i) h)
      | true =>
        rw [e, hz, if_pos rfl] at h
        exact br_f (by decide) (nm_r (nI_1 _) (nm_r (nI_1 i) h))
theorem qg_X_under {post : Int32 → SX → Prop} {c : Nat} (hI : qg_Inv c kd fp sq sz co) (hw : qg_cw cw) (mask : Int32)
    (hp : ∀ wn' ho' fo' al', post (qg_b (qg_V ow (qg_H kd fp sq c mask) 0 0)) ((nI c), cw, mask, ow, kd, fp, sq, sz, wn', co, ho', fo', al')) : wpX_weWinUnder post ((nI c), cw, ak, ow, kd, fp, sq, sz, wn, co, ho, fo, al) mask := by
  unfold wpX_weWinUnder
  dsimp only
  exact qg_X_ask hI hw mask (fun wn' ho' al' hR => qg_X_win (k := 0) (x := 0) hI hw hR (by decide) (by decide) (fun fo' => ⟨qg_narrow _, hp wn' ho' fo' al'⟩))
def qg_bl (ow kd fp sq : Nat → Int32) (c : Nat) : Int32 := if qg_V ow (qg_H kd fp sq c (qg_all c)) 0 0 = true then 0 else qg_bm (fun m => qg_V ow (qg_H kd fp sq c m) 0 0) (qg_all c) c
theorem qg_X_blame {post : Int32 → SX → Prop} {c : Nat} (hI : qg_Inv c kd fp sq sz co) (hw : qg_cw cw)
    (hp : ∀ ak' wn' ho' fo' al', post (qg_bl ow kd fp sq c) ((nI c), cw, ak', ow, kd, fp, sq, sz, wn', co, ho', fo', al')) : wpX_blame post ((nI c), cw, ak, ow, kd, fp, sq, sz, wn, co, ho, fo, al) := by
  have hc := hI.1
  unfold wpX_blame wpX_allRules
  dsimp only
  unfold qg_bl at hp
  refine qg_X_under hI hw (qg_all c) (fun wn' ho' fo' al' => ?_)
  cases hz : qg_V ow (qg_H kd fp sq c (qg_all c)) 0 0 with
  | true =>
    rw [hz, if_pos rfl] at hp
    exact br_f (by decide) (hp _ _ _ _ _)
  | false =>
    rw [hz, if_neg (by decide)] at hp
    refine br_t rfl ?_
    refine pk_loop (σ := Int32 × (Nat → Int32) × (Nat → Int64) × (Nat → Int64) × (Nat → Int64)) (fun n i s => wX_blame_17 post n (qg_bm (fun m => qg_V ow (qg_H kd fp sq c m) 0 0) (qg_all c) i) (nI i) (nI c) cw s.1 ow kd fp sq sz s.2.1 co s.2.2.1 s.2.2.2.1 s.2.2.2.2) (fun _ _ => True) c 0 (qg_all c, wn', ho', fo', al') (Nat.zero_le _) trivial ?_ ?_
    · intro n s _
      exact br_t (nI_le (Nat.le_refl c) (by omega)) (hp _ _ _ _ _)
    · intro n i s hi _ hn
      have e : qg_bm (fun m => qg_V ow (qg_H kd fp sq c m) 0 0) (qg_all c) (i + 1) = if qg_V ow (qg_H kd fp sq c (qg_bm (fun m => qg_V ow (qg_H kd fp sq c m) 0 0) (qg_all c) i &&& (((1 : Int32) <<< (nI i &&& 31)) ^^^ (-1)))) 0 0 = true then qg_bm (fun m => qg_V ow (qg_H kd fp sq c m) 0 0) (qg_all c) i else qg_bm (fun m => qg_V ow (qg_H kd fp sq c m) 0 0) (qg_all c) i &&& (((1 : Int32) <<< (nI i &&& 31)) ^^^ (-1)) := rfl
      refine br_f (nI_ge hi (by omega)) (nm_e (qg_X_under hI hw _ (fun wn2 ho2 fo2 al2 => ?_)))
      have h := hn (qg_bm (fun m => qg_V ow (qg_H kd fp sq c m) 0 0) (qg_all c) i &&& (((1 : Int32) <<< (nI i &&& 31)) ^^^ (-1)), wn2, ho2, fo2, al2) trivial
      cases hv : qg_V ow (qg_H kd fp sq c (qg_bm (fun m => qg_V ow (qg_H kd fp sq c m) 0 0) (qg_all c) i &&& (((1 : Int32) <<< (nI i &&& 31)) ^^^ (-1)))) 0 0 with
      | false =>
        rw [e, hv, if_neg (by decide)] at h
        exact br_t rfl (nm_r (nI_1 i) h)
      | true =>
        rw [e, hv, if_pos rfl] at h
        exact br_f (by decide) (nm_r (nI_1 i) h)
def qg_dd (ow kd fp sq : Nat → Int32) (c : Nat) (k : Nat) : Bool := qg_D (qg_H kd fp sq c (qg_all c)) k (qg_dv ow (qg_V ow (qg_H kd fp sq c (qg_all c))) k)
theorem qg_X_decided {post : Int32 → SX → Prop} {c : Nat} (hI : qg_Inv c kd fp sq sz co) (hw : qg_cw cw)
    (hp : ∀ ak' wn' ho' fo' al', post (nI (qg_dr (qg_dd ow kd fp sq c) 8)) ((nI c), cw, ak', ow, kd, fp, sq, sz, wn', co, ho', fo', al')) : wpX_decided post ((nI c), cw, ak, ow, kd, fp, sq, sz, wn, co, ho, fo, al) := by
  unfold wpX_decided
  dsimp only
  refine qg_X_askAll hI hw (fun wn' ho' al' hR => ?_)
  refine pk_loop (σ := Nat → Int64) (fun n k f => wX_decided_8 post n (nI (qg_dv ow (qg_V ow (qg_H kd fp sq c (qg_all c))) k)) (nI k) (nI c) cw (qg_all c) ow kd fp sq sz wn' co ho' f al') (fun k _ => ∀ j, j < k → qg_dd ow kd fp sq c j = false) 8 0 fo (Nat.zero_le _) (fun j hj => absurd hj (Nat.not_lt_zero j)) ?_ ?_
  · intro n f h
    have hp' := hp (qg_all c) wn' ho' f al'
    rw [qg_dr_8 h] at hp'
    exact br_t (by decide) hp'
  · intro n k f hk h hn
    have hlt := qg_dv_lt ow (qg_V ow (qg_H kd fp sq c (qg_all c))) k
    refine br_f (nI_ge (b := 8) hk (by decide)) (qg_X_isDecided hI hw hR hk hlt ?_)
    cases hz : qg_D (qg_H kd fp sq c (qg_all c)) k (qg_dv ow (qg_V ow (qg_H kd fp sq c (qg_all c))) k) with
    | true =>
      have hp' := hp (qg_all c) wn' ho' f al'
      rw [qg_dr_at hk h hz] at hp'
      exact br_f (by decide) hp'
    | false =>
      have hd : ∀ j, j < k + 1 → qg_dd ow kd fp sq c j = false := fun j hj => (Nat.lt_or_ge j k).elim (h j) (fun y => by
        have e : j = k := by omega
        rw [e]
        exact hz)
      refine br_t rfl (qg_X_choice hI hw hR hk hlt (fun fo' => ?_))
      have g := hn fo' hd
      have e : qg_dv ow (qg_V ow (qg_H kd fp sq c (qg_all c))) (k + 1) = if qg_ch ow (qg_V ow (qg_H kd fp sq c (qg_all c))) k (qg_dv ow (qg_V ow (qg_H kd fp sq c (qg_all c))) k) = 1 then qg_dv ow (qg_V ow (qg_H kd fp sq c (qg_all c))) k + 2 ^ k else qg_dv ow (qg_V ow (qg_H kd fp sq c (qg_all c))) k := rfl
      refine br_c (fun y => ?_) (fun y => ?_)
      · rw [e, if_pos y] at g
        exact nm_r (qg_or hk hlt) (nm_r (nI_1 k) g)
      · rw [e, if_neg y] at g
        exact nm_r (nI_1 k) g
def qg_nf (kd fp sq : Nat → Int32) (c : Nat) (i : Nat) : Bool := qg_eqs 256 (qg_H kd fp sq c (qg_all c &&& (((1 : Int32) <<< (nI i &&& 31)) ^^^ (-1)))) (qg_H kd fp sq c (qg_all c))
theorem qg_nf_c {kd fp sq : Nat → Int32} {c : Nat} (hc : c ≤ 12) (i : Nat) : nI (qg_cnt (qg_H kd fp sq c (qg_all c &&& (((1 : Int32) <<< (nI i &&& 31)) ^^^ (-1)))) 256) = nI (qg_cnt (qg_H kd fp sq c (qg_all c)) 256) ↔ qg_nf kd fp sq c i = true := by
  have h1 := qg_cnt_n (qg_H kd fp sq c (qg_all c &&& (((1 : Int32) <<< (nI i &&& 31)) ^^^ (-1)))) 256
  have h2 := qg_cnt_n (qg_H kd fp sq c (qg_all c)) 256
  rw [nI_eq (by omega) (by omega), qg_cnt_eq 256 (fun x _ h => qg_less (i := i) hc _ _ h)]
  unfold qg_nf qg_eqs
  rw [decide_eq_true_eq]
theorem qg_X_needless {post : Int32 → SX → Prop} {c : Nat} (hI : qg_Inv c kd fp sq sz co) (hw : qg_cw cw)
    (hp : ∀ ak' wn' ho' al', post (qg_set (qg_nf kd fp sq c) c) ((nI c), cw, ak', ow, kd, fp, sq, sz, wn', co, ho', fo, al')) : wpX_needless post ((nI c), cw, ak, ow, kd, fp, sq, sz, wn, co, ho, fo, al) := by
  have hc := hI.1
  unfold wpX_needless wpX_allRules
  dsimp only
  refine qg_X_askAll hI hw (fun wn' ho' al' hR => qg_X_hl hI hw hR ?_)
  refine pk_loop (σ := Int32 × (Nat → Int32) × (Nat → Int64) × (Nat → Int64)) (fun n i s => wX_needless_19 post (nI (qg_cnt (qg_H kd fp sq c (qg_all c)) 256)) (qg_all c) n (qg_set (qg_nf kd fp sq c) i) (nI i) (nI c) cw s.1 ow kd fp sq sz s.2.1 co s.2.2.1 fo s.2.2.2) (fun _ _ => True) c 0 (qg_all c, wn', ho', al') (Nat.zero_le _) trivial ?_ ?_
  · intro n s _
    exact br_t (nI_le (Nat.le_refl c) (by omega)) (hp _ _ _ _)
  · intro n i s hi _ hn
    refine br_f (nI_ge hi (by omega)) (qg_X_ask hI hw _ (fun wn2 ho2 al2 hR2 => qg_X_hl hI hw hR2 ?_))
    have h := hn (qg_all c &&& (((1 : Int32) <<< (nI i &&& 31)) ^^^ (-1)), wn2, ho2, al2) trivial
    have e : qg_set (qg_nf kd fp sq c) (i + 1) = if qg_nf kd fp sq c i = true then qg_set (qg_nf kd fp sq c) i ||| ((1 : Int32) <<< (nI i &&& 31)) else qg_set (qg_nf kd fp sq c) i := rfl
    refine ek_if (qg_nf_c hc i) (fun z => ?_) (fun z => ?_)
    · rw [e, if_pos z] at h
      exact nm_e (nm_r (nI_1 i) h)
    · rw [e, if_neg z] at h
      exact nm_r (nI_1 i) h
end
