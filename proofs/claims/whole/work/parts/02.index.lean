def ss_v (a : Nat → Int32) (p q b j : Nat) : Int32 := ((a (7 * p + b) + a (7 * q + j)) - a (7 * p + q)) - a (7 * b + j)
theorem ss_nle {x y : Int32} (h : ¬ x ≤ y) : y ≤ x := by
  rw [Int32.le_iff_toInt_le] at *; omega
theorem xx_lp19 {post : Int32 → Prop} {J : Int32 → Int32 → Prop} {s : Int32} {p q b c : Nat} {a e : Nat → Int32} (hc : c ≤ 7) (hp : p < c) (hq : q < c) (hb : b < c) (Q : Int32 → Prop)
    (hQ : ∀ j, j < c → ss_b s (nI b) = 0 → ss_b s (nI j) = 0 → Q (ss_v a p q b j)) :
    ∀ d j, j + d = c → ∀ x, Q x → (∀ r, Q r → r ≤ x → (∀ j', j ≤ j' → j' < c → ss_b s (nI b) = 0 → ss_b s (nI j') = 0 → r ≤ ss_v a p q b j') → J r (nI (b + 1))) →
      wX_leastOfPair_19 post J s (nI p) (nI q) (nI b) (nI c) a e (d + 1) x (nI j) := by
  intro d
  induction d with
  | zero =>
    intro j hj x hx h
    have hj' : j = c := by omega
    refine br_t (by rw [hj']; exact Int32.le_refl _) (nm_r (nI_1 b) (h x hx (Int32.le_refl _) (fun j' h1 h2 => by omega)))
  | succ d ih =>
    intro j hj x hx h
    have hjc : j < c := by omega
    refine br_f (ss_hi hjc hc) ?_
    refine xx_has (fun e1 => ?_) (fun e1 => ?_)
    · refine br_f ss_10 (nm_r (nI_1 j) (ih (j + 1) (by omega) x hx ?_))
      intro r hr hrx hall
      exact h r hr hrx (fun j' h1 h2 z1 z2 => absurd e1 (ss_b00 z1))
    · refine br_t rfl ?_
      refine xx_has (fun e2 => ?_) (fun e2 => ?_)
      · refine br_f ss_10 (nm_r (nI_1 j) (ih (j + 1) (by omega) x hx ?_))
        intro r hr hrx hall
        refine h r hr hrx (fun j' h1 h2 z1 z2 => ?_)
        rcases Nat.lt_or_ge j j' with g | g
        · exact hall j' g h2 z1 z2
        · have : j' = j := by omega
          subst this
          exact absurd e2 (ss_b00 z2)
      · refine br_t rfl ?_
        refine xx_btw (by omega) (by omega) (xx_btw (by omega) (by omega) (xx_btw (by omega) (by omega) (xx_btw (by omega) (by omega) ?_)))
        refine nm_e ?_
        show (x ≤ ss_v a p q b j → _) ∧ (¬ x ≤ ss_v a p q b j → _)
        refine br_c (fun g => nm_r (nI_1 j) (ih (j + 1) (by omega) x hx ?_)) (fun g => nm_r (nI_1 j) (ih (j + 1) (by omega) (ss_v a p q b j) (hQ j hjc e1 e2) ?_))
        · intro r hr hrx hall
          refine h r hr hrx (fun j' h1 h2 z1 z2 => ?_)
          rcases Nat.lt_or_ge j j' with g' | g'
          · exact hall j' g' h2 z1 z2
          · have : j' = j := by omega
            subst this
            exact Int32.le_trans hrx g
        · intro r hr hrx hall
          refine h r hr (Int32.le_trans hrx (ss_nle g)) (fun j' h1 h2 z1 z2 => ?_)
          rcases Nat.lt_or_ge j j' with g' | g'
          · exact hall j' g' h2 z1 z2
          · have : j' = j := by omega
            subst this
            exact hrx
theorem xx_lp7 {post : Int32 → Prop} {s : Int32} {p q c : Nat} {a e : Nat → Int32} (hc : c ≤ 7) (hp : p < c) (hq : q < c) (Q : Int32 → Prop)
    (hQ : ∀ b j, b < c → j < c → ss_b s (nI b) = 0 → ss_b s (nI j) = 0 → Q (ss_v a p q b j)) :
    ∀ d b, b + d = c → ∀ x, Q x → (∀ r, Q r → r ≤ x → (∀ b' j', b ≤ b' → b' < c → j' < c → ss_b s (nI b') = 0 → ss_b s (nI j') = 0 → r ≤ ss_v a p q b' j') → post r) →
      wX_leastOfPair_7 post s (nI p) (nI q) (nI c) a e (d + 1) x (nI b) := by
  intro d
  induction d with
  | zero =>
    intro b hb x hx h
    have hb' : b = c := by omega
    exact br_t (by rw [hb']; exact Int32.le_refl _) (h x hx (Int32.le_refl _) (fun b' j' h1 h2 => by omega))
  | succ d ih =>
    intro b hb x hx h
    have hbc : b < c := by omega
    refine br_f (ss_hi hbc hc) ⟨c + 1, ?_⟩
    refine xx_lp19 hc hp hq hbc Q (fun j hj z1 z2 => hQ b j hbc hj z1 z2) c 0 (by omega) x hx ?_
    intro r hr hrx hall
    refine ih (b + 1) (by omega) r hr ?_
    intro r' hr' hrr hall'
    refine h r' hr' (Int32.le_trans hrr hrx) (fun b' j' h1 h2 h3 z1 z2 => ?_)
    rcases Nat.lt_or_ge b b' with g | g
    · exact hall' b' j' g h2 h3 z1 z2
    · have : b' = b := by omega
      subst this
      exact Int32.le_trans hrr (hall j' (by omega) h3 z1 z2)
theorem xx_lp {post : Int32 → Prop} {s : Int32} {p q c : Nat} {a e : Nat → Int32} (hc : c ≤ 7) (hp : p < c) (hq : q < c) (Q : Int32 → Prop) (h120 : Q 120)
    (hQ : ∀ b j, b < c → j < c → ss_b s (nI b) = 0 → ss_b s (nI j) = 0 → Q (ss_v a p q b j))
    (h : ∀ r, Q r → (∀ b j, b < c → j < c → ss_b s (nI b) = 0 → ss_b s (nI j) = 0 → r ≤ ss_v a p q b j) → post r) :
    wpX_leastOfPair post (nI c, a, e) s (nI p) (nI q) :=
  ⟨c + 1, xx_lp7 hc hp hq Q hQ c 0 (by omega) 120 h120 (fun r hr _ hall => h r hr (fun b j h1 h2 z1 z2 => hall b j (by omega) h1 h2 z1 z2))⟩
theorem xx_ls16 {post : Int32 → Prop} {J : Int32 → Int32 → Prop} {s : Int32} {p c : Nat} {a e : Nat → Int32} (hc : c ≤ 7) (hp : p < c) (Q : Int32 → Prop) (h120 : Q 120)
    (hQ : ∀ q b j, q < c → b < c → j < c → ss_b s (nI p) = 1 → ss_b s (nI q) = 1 → ss_b s (nI b) = 0 → ss_b s (nI j) = 0 → Q (ss_v a p q b j)) :
    ∀ d q, q + d = p + 1 → ∀ x, Q x → (∀ r, Q r → r ≤ x → (∀ q' b j, q ≤ q' → q' ≤ p → b < c → j < c → ss_b s (nI p) = 1 → ss_b s (nI q') = 1 → ss_b s (nI b) = 0 → ss_b s (nI j) = 0 → r ≤ ss_v a p q' b j) → J r (nI (p + 1))) →
      wX_leastOfSplit_16 post J s (nI p) (nI c) a e (d + 1) x (nI q) := by
  intro d
  induction d with
  | zero =>
    intro q hq x hx h
    have hq' : q = p + 1 := by omega
    exact br_t (nI_lt (by omega) (by omega)) (nm_r (nI_1 p) (h x hx (Int32.le_refl _) (fun q' b j h1 h2 => by omega)))
  | succ d ih =>
    intro q hq x hx h
    have hqp : q ≤ p := by omega
    refine br_f (nI_nlt hqp (by omega)) ?_
    refine xx_has (fun e1 => ?_) (fun e1 => ?_)
    · refine br_f ss_10 ?_
      refine xx_has (fun e2 => ?_) (fun e2 => ?_)
      · refine br_f ss_10 ?_
        refine xx_lp hc hp (by omega) Q h120 (fun b j hb hj z1 z2 => hQ q b j (by omega) hb hj e1 e2 z1 z2) ?_
        intro r hr hall
        refine br_c (fun g => nm_r (nI_1 q) (ih (q + 1) (by omega) x hx ?_)) (fun g => nm_r (nI_1 q) (ih (q + 1) (by omega) r hr ?_))
        · intro r' hr' hrx hall'
          refine h r' hr' hrx (fun q' b j h1 h2 hb hj z1 z2 z3 z4 => ?_)
          rcases Nat.lt_or_ge q q' with g' | g'
          · exact hall' q' b j g' h2 hb hj z1 z2 z3 z4
          · have : q' = q := by omega
            subst this
            exact Int32.le_trans (Int32.le_trans hrx g) (hall b j hb hj z3 z4)
        · intro r' hr' hrx hall'
          refine h r' hr' (Int32.le_trans hrx (ss_nle g)) (fun q' b j h1 h2 hb hj z1 z2 z3 z4 => ?_)
          rcases Nat.lt_or_ge q q' with g' | g'
          · exact hall' q' b j g' h2 hb hj z1 z2 z3 z4
          · have : q' = q := by omega
            subst this
            exact Int32.le_trans hrx (hall b j hb hj z3 z4)
      · refine br_t rfl (nm_r (nI_1 q) (ih (q + 1) (by omega) x hx ?_))
        intro r hr hrx hall
        refine h r hr hrx (fun q' b j h1 h2 hb hj z1 z2 z3 z4 => ?_)
        rcases Nat.lt_or_ge q q' with g | g
        · exact hall q' b j g h2 hb hj z1 z2 z3 z4
        · have : q' = q := by omega
          subst this
          exact absurd z2 (ss_b00 e2)
    · refine br_t rfl (nm_r (nI_1 q) (ih (q + 1) (by omega) x hx ?_))
      intro r hr hrx hall
      exact h r hr hrx (fun q' b j h1 h2 hb hj z1 z2 z3 z4 => absurd z1 (ss_b00 e1))
theorem xx_ls5 {post : Int32 → Prop} {s : Int32} {c : Nat} {a e : Nat → Int32} (hc : c ≤ 7) (Q : Int32 → Prop) (h120 : Q 120)
    (hQ : ∀ p q b j, p < c → q < c → b < c → j < c → ss_b s (nI p) = 1 → ss_b s (nI q) = 1 → ss_b s (nI b) = 0 → ss_b s (nI j) = 0 → Q (ss_v a p q b j)) :
    ∀ d p, p + d = c → ∀ x, Q x → (∀ r, Q r → r ≤ x → (∀ p' q b j, p ≤ p' → p' < c → q ≤ p' → b < c → j < c → ss_b s (nI p') = 1 → ss_b s (nI q) = 1 → ss_b s (nI b) = 0 → ss_b s (nI j) = 0 → r ≤ ss_v a p' q b j) → post r) →
      wX_leastOfSplit_5 post s (nI c) a e (d + 1) x (nI p) := by
  intro d
  induction d with
  | zero =>
    intro p hp x hx h
    have hp' : p = c := by omega
    exact br_t (by rw [hp']; exact Int32.le_refl _) (h x hx (Int32.le_refl _) (fun p' q b j h1 h2 => by omega))
  | succ d ih =>
    intro p hp x hx h
    have hpc : p < c := by omega
    refine br_f (ss_hi hpc hc) ⟨p + 1 + 1, ?_⟩
    refine xx_ls16 hc hpc Q h120 (fun q b j hq hb hj => hQ p q b j hpc hq hb hj) (p + 1) 0 (by omega) x hx ?_
    intro r hr hrx hall
    refine ih (p + 1) (by omega) r hr ?_
    intro r' hr' hrr hall'
    refine h r' hr' (Int32.le_trans hrr hrx) (fun p' q b j h1 h2 h3 hb hj z1 z2 z3 z4 => ?_)
    rcases Nat.lt_or_ge p p' with g | g
    · exact hall' p' q b j g h2 h3 hb hj z1 z2 z3 z4
    · have : p' = p := by omega
      subst this
      exact Int32.le_trans hrr (hall q b j (by omega) h3 hb hj z1 z2 z3 z4)
def ss_ok (a : Nat → Int32) : Prop := (∀ i j, i < 7 → j < 7 → a (7 * i + j) = a (7 * j + i)) ∧ (∀ i, i < 7 → a (7 * i + i) = 0) ∧ (∀ q, ∃ n : Nat, n ≤ 60 ∧ a q = nI n)
def ss_in4 (c : Nat) (s : Int32) (p q b j : Nat) : Prop := p < c ∧ q < c ∧ b < c ∧ j < c ∧ ss_b s (nI p) = 1 ∧ ss_b s (nI q) = 1 ∧ ss_b s (nI b) = 0 ∧ ss_b s (nI j) = 0
def ss_mn (c : Nat) (a : Nat → Int32) (s : Int32) (r : Int32) : Prop := (∃ p q b j, ss_in4 c s p q b j ∧ r = ss_v a p q b j) ∧ ∀ p q b j, ss_in4 c s p q b j → r ≤ ss_v a p q b j
theorem ss_mnU {c : Nat} {a : Nat → Int32} {s r r' : Int32} (h : ss_mn c a s r) (h' : ss_mn c a s r') : r' = r := by
  obtain ⟨⟨p, q, b, j, h1, e1⟩, h2⟩ := h
  obtain ⟨⟨p', q', b', j', h1', e1'⟩, h2'⟩ := h'
  apply Int32.le_antisymm
  · rw [e1]; exact h2' _ _ _ _ h1
  · rw [e1']; exact h2 _ _ _ _ h1'
theorem ss_vsw {a : Nat → Int32} (ok : ss_ok a) {p q b j : Nat} (hp : p < 7) (hq : q < 7) (hb : b < 7) (hj : j < 7) : ss_v a p q b j = ss_v a q p j b := by
  unfold ss_v
  rw [ok.1 q p hq hp, ok.1 j b hj hb, Int32.add_comm (a (7 * q + j))]
theorem ss_vd {a : Nat → Int32} (ok : ss_ok a) {p b : Nat} (hp : p < 7) (hb : b < 7) : ∃ n : Nat, n ≤ 120 ∧ ss_v a p p b b = nI n := by
  obtain ⟨n, hn, e⟩ := ok.2.2 (7 * p + b)
  refine ⟨n + n, by omega, ?_⟩
  unfold ss_v
  rw [ok.2.1 p hp, ok.2.1 b hb, e, nI_add, Int32.sub_zero, Int32.sub_zero]
theorem ss_two : ∀ c, c ≤ 7 → ∀ t, t < ss_T c → ss_b (nI (2 * t + 1)) (nI 0) = 1 ∧ ∃ b, b < c ∧ ss_b (nI (2 * t + 1)) (nI b) = 0 := by
  have H : ∀ c, c < 8 → ∀ t, t < ss_T c → ss_b (nI (2 * t + 1)) (nI 0) = 1 ∧ ∃ b, b < c ∧ ss_b (nI (2 * t + 1)) (nI b) = 0 := by decide +kernel
  intro c hc
  exact H c (by omega)
theorem ss_T0 : ∀ c, c ≤ 7 → ∀ t, t < ss_T c → 0 < c := by
  intro c hc t ht
  rcases Nat.eq_zero_or_pos c with h | h
  · subst h; simp [ss_T] at ht
  · exact h
def ss_Q (c : Nat) (a : Nat → Int32) (s w0 w : Int32) : Prop := w = w0 ∨ ∃ p q b j, ss_in4 c s p q b j ∧ w = ss_v a p q b j
theorem ss_Q0 {c : Nat} {a : Nat → Int32} {s w0 : Int32} : ss_Q c a s w0 w0 := Or.inl rfl
theorem ss_Q1 {c : Nat} {a : Nat → Int32} {s w0 : Int32} {p q b j : Nat} (h : ss_in4 c s p q b j) : ss_Q c a s w0 (ss_v a p q b j) := Or.inr ⟨p, q, b, j, h, rfl⟩
theorem xx_ls {post : Int32 → Prop} {c t : Nat} {a e : Nat → Int32} (hc : c ≤ 7) (ok : ss_ok a) (ht : t < ss_T c) (h : ∀ r, ss_mn c a (nI (2 * t + 1)) r → post r) :
    wpX_leastOfSplit post (nI c, a, e) (nI (2 * t + 1)) := by
  refine ⟨c + 1, xx_ls5 hc (ss_Q c a (nI (2 * t + 1)) 120) ss_Q0 (fun p q b j hp hq hb hj z1 z2 z3 z4 => ss_Q1 ⟨hp, hq, hb, hj, z1, z2, z3, z4⟩) c 0 (by omega) 120 ss_Q0 ?_⟩
  intro r hr hr1 hall
  have hall2 : ∀ p q b j, ss_in4 c (nI (2 * t + 1)) p q b j → r ≤ ss_v a p q b j := by
    intro p q b j ⟨hp, hq, hb, hj, z1, z2, z3, z4⟩
    rcases Nat.le_total q p with g | g
    · exact hall p q b j (by omega) hp g hb hj z1 z2 z3 z4
    · rw [ss_vsw ok (by omega) (by omega) (by omega) (by omega)]
      exact hall q p j b (by omega) hq g hj hb z2 z1 z4 z3
  refine h r ⟨?_, hall2⟩
  rcases hr with hr | hr
  · obtain ⟨z1, b, hb, z2⟩ := ss_two c hc t ht
    have h0 := ss_T0 c hc t ht
    have h4 : ss_in4 c (nI (2 * t + 1)) 0 0 b b := ⟨h0, h0, hb, hb, z1, z1, z2, z2⟩
    refine ⟨0, 0, b, b, h4, ?_⟩
    obtain ⟨n, hn, e⟩ := ss_vd ok (p := 0) (b := b) (by omega) (by omega)
    apply Int32.le_antisymm
    · exact hall2 _ _ _ _ h4
    · rw [e, hr]; exact nI_le (b := 120) hn (by decide)
  · exact hr
def ss_ms (c : Nat) (a e : Nat → Int32) : Prop := ∀ t, t < ss_T c → ss_mn c a (nI (2 * t + 1)) (e (2 * t + 1))
theorem xx_ms7 {post : SX → Prop} {c : Nat} {a : Nat → Int32} (hc : c ≤ 7) (ok : ss_ok a) (h : ∀ e, ss_ms c a e → post (nI c, a, e)) :
    ∀ d t, t + d = ss_T c → ∀ e, (∀ t', t' < t → ss_mn c a (nI (2 * t' + 1)) (e (2 * t' + 1))) → wX_measureSplits_7 post (ss_al c) (nI c) (d + 1) (nI (2 * t + 1)) a e := by
  intro d
  induction d with
  | zero =>
    intro t ht e he
    exact br_t (ss_exT hc (by omega)) (h e (fun t' h' => he t' (by omega)))
  | succ d ih =>
    intro t ht e he
    have htc : t < ss_T c := by omega
    refine br_f (ss_exF hc htc) ?_
    refine xx_ls hc ok htc ?_
    intro r hr
    refine ⟨ss_in hc htc, nm_e (nm_r (ss_2 t) (ih (t + 1) (by omega) _ ?_))⟩
    intro t' ht'
    rw [ss_cl hc htc]
    rcases Nat.lt_or_ge t' t with g | g
    · rw [pk_un (by omega)]; exact he t' g
    · have : t' = t := by omega
      subst this
      rw [pk_us]; exact hr
theorem xx_ms {post : SX → Prop} {c : Nat} {a e : Nat → Int32} (hc : c ≤ 7) (ok : ss_ok a) (h : ∀ e, ss_ms c a e → post (nI c, a, e)) : wpX_measureSplits post (nI c, a, e) :=
  ⟨ss_T c + 1, xx_ms7 hc ok h (ss_T c) 0 (by omega) e (fun t' h' => by omega)⟩
