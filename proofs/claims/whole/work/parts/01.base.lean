theorem pk_us {f : Nat → Int32} {k : Nat} {x : Int32} : upd f k x k = x := if_pos rfl
theorem pk_un {f : Nat → Int32} {k j : Nat} {x : Int32} (h : j ≠ k) : upd f k x j = f j := if_neg h
theorem pk_sub {a b : Nat} (h : b ≤ a) : nI a - nI b = nI (a - b) := by
  obtain ⟨c, rfl⟩ : ∃ c, a = c + b := ⟨a - b, by omega⟩
  rw [← nI_add, Int32.add_sub_cancel, Nat.add_sub_cancel]
theorem pk_m1 (n : Nat) : nI (n + 1) + (-1) = nI n := by
  rw [← nI_1, Int32.add_assoc, show (1 : Int32) + (-1) = 0 from rfl, Int32.add_zero]
theorem pk_mul (a b : Nat) : nI a * nI b = nI (a * b) := (Int32.ofNat_mul a b).symm
theorem pk_div {a d : Nat} (ha : a < 2 ^ 31) (h0 : 0 < d) (hd : d < 2 ^ 31) : nI a / nI d = nI (a / d) := by
  apply Int32.toInt_inj.mp
  rw [lg_idiv_nonneg (by rw [nI_toInt ha]; omega) (by rw [nI_toInt hd]; omega), nI_toInt ha, nI_toInt hd, nI_toInt (Nat.lt_of_le_of_lt (Nat.div_le_self a d) ha)]
  first | rfl | exact (Int.natCast_ediv _ _).symm
theorem pk_rem {a d : Nat} (ha : a < 2 ^ 31) (h0 : 0 < d) (hd : d < 2 ^ 31) : nI a - nI a / nI d * nI d = nI (a % d) := by
  rw [pk_div ha h0 hd, pk_mul, pk_sub (Nat.div_mul_le_self a d)]
  exact congrArg nI (by have := Nat.div_add_mod' a d; omega)
theorem pk_ix (x : Int32) {n : Nat} (hn : n < 2 ^ 31) : x < 0 ∨ nI n ≤ x ∨ ∃ j : Nat, j < n ∧ x = nI j := by
  by_cases h : x < 0
  · exact Or.inl h
  · obtain ⟨j, hj, rfl⟩ := nI_of h
    by_cases h2 : j < n
    · exact Or.inr (Or.inr ⟨j, h2, rfl⟩)
    · exact Or.inr (Or.inl (nI_le (by omega) hj))
theorem pk_le {x y : Int32} {A B : Prop} (a b : Nat) (f : a ≤ b → A) (g : b < a → B) (hx : x = nI a := by rfl) (hy : y = nI b := by rfl) (ha : a < 2 ^ 31 := by omega) (hb : b < 2 ^ 31 := by omega) : (x ≤ y → A) ∧ (¬ x ≤ y → B) := by
  subst hx hy
  rw [nI_leI ha hb]
  exact ⟨f, fun z => g (by omega)⟩
theorem pk_lt {x y : Int32} {A B : Prop} (a b : Nat) (f : a < b → A) (g : b ≤ a → B) (hx : x = nI a := by rfl) (hy : y = nI b := by rfl) (ha : a < 2 ^ 31 := by omega) (hb : b < 2 ^ 31 := by omega) : (x < y → A) ∧ (¬ x < y → B) := by
  subst hx hy
  rw [nI_ltI ha hb]
  exact ⟨f, fun z => g (by omega)⟩
theorem pk_eq {x y : Int32} {A B : Prop} (a b : Nat) (f : a = b → A) (g : a ≠ b → B) (hx : x = nI a := by rfl) (hy : y = nI b := by rfl) (ha : a < 2 ^ 31 := by omega) (hb : b < 2 ^ 31 := by omega) : (x = y → A) ∧ (¬ x = y → B) := by
  subst hx hy
  rw [nI_eq ha hb]
  exact ⟨f, g⟩
theorem pk_in {x : Int32} (n N : Nat) (h : n < N) (hx : x = nI n := by rfl) (hN : N < 2 ^ 31 := by omega) : vp_in x N := by
  subst hx
  exact vp_in_nI h hN
theorem pk_cl {x : Int32} (n : Nat) (hx : x = nI n := by rfl) (h : n < 2 ^ 31 := by omega) : x.toNatClampNeg = n := by
  subst hx
  exact nI_clamp h
theorem pk_tn {n : Nat} (h : n < 2 ^ 32) : (nI n).toBitVec.toNat = n := Nat.mod_eq_of_lt h
theorem pk_and (x : Int32) {m : Int32} (k : Nat) (hm : m.toBitVec.toNat = 2 ^ k - 1) : x &&& m = nI (x.toBitVec.toNat % 2 ^ k) := by
  apply Int32.toBitVec_inj.mp
  apply BitVec.eq_of_toNat_eq
  rw [Int32.toBitVec_and, BitVec.toNat_and, hm, Nat.and_two_pow_sub_one_eq_mod]
  show _ = (BitVec.ofNat 32 _).toNat
  rw [BitVec.toNat_ofNat]
  exact (Nat.mod_eq_of_lt (Nat.lt_of_le_of_lt (Nat.mod_le _ _) x.toBitVec.isLt)).symm
theorem pk_andN {n : Nat} (h : n < 2 ^ 32) {m : Int32} (k : Nat) (hm : m.toBitVec.toNat = 2 ^ k - 1) : nI n &&& m = nI (n % 2 ^ k) := by
  rw [pk_and _ k hm, pk_tn h]
theorem pk_andE (x : Int32) {m : Int32} (k : Nat) (hm : m.toBitVec.toNat = 2 ^ k - 1) : ∃ j : Nat, j < 2 ^ k ∧ x &&& m = nI j := ⟨_, Nat.mod_lt _ (Nat.two_pow_pos k), pk_and x k hm⟩
abbrev ss_al (c : Nat) : Int32 := ((1 : Int32) <<< (nI c &&& 31)) - 1
abbrev ss_b (x y : Int32) : Int32 := (x >>> (y &&& 31)) &&& 1
def ss_T (c : Nat) : Nat := 2 ^ (c - 1) - 1
theorem ss_c8 {P : Nat → Prop} (h : (List.range 8).all (fun i => decide (i < 8)) = true) (h0 : P 0) (h1 : P 1) (h2 : P 2) (h3 : P 3) (h4 : P 4) (h5 : P 5) (h6 : P 6) (h7 : P 7) : ∀ c, c ≤ 7 → P c := by
  intro c hc
  match c, hc with
  | 0, _ => exact h0
  | 1, _ => exact h1
  | 2, _ => exact h2
  | 3, _ => exact h3
  | 4, _ => exact h4
  | 5, _ => exact h5
  | 6, _ => exact h6
  | 7, _ => exact h7
theorem ss_alE : ∀ c, c ≤ 7 → ss_al c = nI (2 ^ c - 1) :=
  ss_c8 (by decide) (by decide) (by decide) (by decide) (by decide) (by decide) (by decide) (by decide) (by decide)
theorem ss_TT : ∀ c, c ≤ 7 → ss_T c ≤ 63 ∧ 2 ^ c - 1 ≤ 2 * ss_T c + 1 ∧ 2 ^ c - 1 ≤ 127 ∧ (∀ t, t < ss_T c → 2 * t + 1 < 2 ^ c - 1) := by
  intro c hc
  match c, hc with
  | 0, _ => exact ⟨by decide, by decide, by decide, fun t h => absurd h (by simp [ss_T])⟩
  | 1, _ => exact ⟨by decide, by decide, by decide, fun t h => absurd h (by simp [ss_T])⟩
  | 2, _ => exact ⟨by decide, by decide, by decide, fun t h => by simp [ss_T] at h ⊢; omega⟩
  | 3, _ => exact ⟨by decide, by decide, by decide, fun t h => by simp [ss_T] at h ⊢; omega⟩
  | 4, _ => exact ⟨by decide, by decide, by decide, fun t h => by simp [ss_T] at h ⊢; omega⟩
  | 5, _ => exact ⟨by decide, by decide, by decide, fun t h => by simp [ss_T] at h ⊢; omega⟩
  | 6, _ => exact ⟨by decide, by decide, by decide, fun t h => by simp [ss_T] at h ⊢; omega⟩
  | 7, _ => exact ⟨by decide, by decide, by decide, fun t h => by simp [ss_T] at h ⊢; omega⟩
theorem ss_exT {c t : Nat} (hc : c ≤ 7) (ht : t = ss_T c) : ss_al c ≤ nI (2 * t + 1) := by
  obtain ⟨h1, h2, h3, h4⟩ := ss_TT c hc
  rw [ss_alE c hc]
  exact nI_le (by omega) (by omega)
theorem ss_exF {c t : Nat} (hc : c ≤ 7) (ht : t < ss_T c) : ¬ ss_al c ≤ nI (2 * t + 1) := by
  obtain ⟨h1, h2, h3, h4⟩ := ss_TT c hc
  have := h4 t ht
  rw [ss_alE c hc]
  exact nI_ge this (by omega)
theorem ss_in {c t : Nat} (hc : c ≤ 7) (ht : t < ss_T c) : vp_in (nI (2 * t + 1)) 128 := by
  obtain ⟨h1, h2, h3, h4⟩ := ss_TT c hc
  exact vp_in_nI (by omega) (by omega)
theorem ss_cl {c t : Nat} (hc : c ≤ 7) (ht : t < ss_T c) : (nI (2 * t + 1)).toNatClampNeg = 2 * t + 1 := by
  obtain ⟨h1, h2, h3, h4⟩ := ss_TT c hc
  exact nI_clamp (by omega)
theorem ss_2 (t : Nat) : nI (2 * t + 1) + 2 = nI (2 * (t + 1) + 1) := nI_add (2 * t + 1) 2
theorem ss_cX (i j : Nat) : nI i * 7 + nI j = nI (7 * i + j) := by
  rw [show (7 : Int32) = nI 7 from rfl, pk_mul, nI_add, Nat.mul_comm i 7]
theorem ss_cY (i j : Nat) : 7 * nI i + nI j = nI (7 * i + j) := by
  rw [show (7 : Int32) = nI 7 from rfl, pk_mul, nI_add]
theorem ss_inX {i j : Nat} (hi : i < 7) (hj : j < 7) : vp_in (nI i * 7 + nI j) 49 := by
  rw [ss_cX]; exact vp_in_nI (by omega) (by omega)
theorem ss_inY {i j : Nat} (hi : i < 7) (hj : j < 7) : vp_in (7 * nI i + nI j) 49 := by
  rw [ss_cY]; exact vp_in_nI (by omega) (by omega)
theorem ss_clX {i j : Nat} (hi : i < 7) (hj : j < 7) : (nI i * 7 + nI j).toNatClampNeg = 7 * i + j := by
  rw [ss_cX]; exact nI_clamp (by omega)
theorem ss_clY {i j : Nat} (hi : i < 7) (hj : j < 7) : (7 * nI i + nI j).toNatClampNeg = 7 * i + j := by
  rw [ss_cY]; exact nI_clamp (by omega)
theorem ss_b01 (x y : Int32) : ss_b x y = 0 ∨ ss_b x y = 1 := by
  obtain ⟨j, hj, e⟩ := pk_andE (x >>> (y &&& 31)) (m := 1) 1 (by decide)
  match j, hj, e with
  | 0, _, e => exact Or.inl e
  | 1, _, e => exact Or.inr e
theorem ss_b1 {x y : Int32} (h : ¬ ss_b x y = 0) : ss_b x y = 1 := (ss_b01 x y).resolve_left h
theorem ss_b0 {x y : Int32} (h : ¬ ss_b x y = 1) : ss_b x y = 0 := (ss_b01 x y).resolve_right h
theorem ss_b10 {x y : Int32} (h : ss_b x y = 1) : ¬ ss_b x y = 0 := by rw [h]; decide
theorem ss_b00 {x y : Int32} (h : ss_b x y = 0) : ¬ ss_b x y = 1 := by rw [h]; decide
theorem ss_10 : ¬ (1 : Int32) = 0 := by decide
def ss_pt (a : Nat → Int32) (i j : Nat) (d : Int32) : Nat → Int32 := upd (upd a (7 * i + j) d) (7 * j + i) d
theorem xx_has {post : Int32 → Prop} {x y : Int32} (h1 : ss_b x y = 1 → post 1) (h0 : ss_b x y = 0 → post 0) : wpX_has post x y :=
  br_c h1 (fun h => h0 (ss_b0 h))
theorem xx_parts {post : Int32 → Prop} {s x y : Int32} (h0 : ss_b s x = ss_b s y → post 0) (h1 : ¬ ss_b s x = ss_b s y → post 1) : wpX_parts post s x y := by
  refine xx_has (fun e1 => xx_has (fun e2 => ?_) (fun e2 => ?_)) (fun e1 => xx_has (fun e2 => ?_) (fun e2 => ?_))
  · exact br_t rfl (h0 (e1.trans e2.symm))
  · exact br_f ss_10 (h1 (by rw [e1, e2]; decide))
  · exact br_f (by decide) (h1 (by rw [e1, e2]; decide))
  · exact br_t rfl (h0 (e1.trans e2.symm))
theorem xx_btw {post : Int32 → Prop} {c : Int32} {a e : Nat → Int32} {i j : Nat} (hi : i < 7) (hj : j < 7) (h : post (a (7 * i + j))) : wpX_between post (c, a, e) (nI i) (nI j) := by
  refine ⟨ss_inX hi hj, ?_⟩
  rw [ss_clX hi hj]; exact h
theorem xx_put {post : SX → Prop} {c d : Int32} {a e : Nat → Int32} {i j : Nat} (hi : i < 7) (hj : j < 7) (h : post (c, ss_pt a i j d, e)) : wpX_put post (c, a, e) (nI i) (nI j) d := by
  refine ⟨ss_inX hi hj, nm_r (by rw [ss_clX hi hj]) ⟨ss_inX hj hi, nm_r (by rw [ss_clX hj hi]; rfl) h⟩⟩
theorem yy_put {post : SY → Prop} {c d : Int32} {a m e : Nat → Int32} {i j : Nat} (hi : i < 7) (hj : j < 7) (h : post (c, ss_pt a i j d, m, e)) : wpY_put post (c, a, m, e) (nI i) (nI j) d := by
  refine ⟨ss_inY hi hj, nm_r (by rw [ss_clY hi hj]) ⟨ss_inY hj hi, nm_r (by rw [ss_clY hj hi]; rfl) h⟩⟩
abbrev ss_di (d : Int32) : Prop := ¬ d < 0 ∧ ¬ 60 < d
theorem xx_dis {post : Int32 → Prop} {d : Int32} (h1 : ss_di d → post 1) (h0 : ¬ ss_di d → post 0) : wpX_isDistance post d :=
  br_c (fun h => h0 (fun z => z.1 h)) (fun h => br_c (fun g => h0 (fun z => z.2 g)) (fun g => h1 ⟨h, g⟩))
theorem xx_chg {post : Int32 → SX → Prop} {c d : Int32} {a e : Nat → Int32} {i j : Nat} (hi : i < 7) (hj : j < 7) (h0 : ¬ (ss_di d ∧ ¬ a (7 * i + j) = d) → post 0 (c, a, e)) (h1 : ss_di d → ¬ a (7 * i + j) = d → post 1 (c, ss_pt a i j d, e)) : wpX_change post (c, a, e) (nI i) (nI j) d := by
  unfold wpX_change; dsimp only
  refine xx_dis (fun g => br_f ss_10 ?_) (fun g => br_t rfl (h0 (fun z => g z.1)))
  refine xx_btw hi hj (br_c (fun z => h0 (fun w => w.2 z)) (fun z => ?_))
  exact xx_put hi hj (h1 g z)
theorem ss_lo {j c : Nat} (h : j < c) (hc : c ≤ 7) : ¬ nI j < 0 := nI_pos (by omega)
theorem ss_hi {j c : Nat} (h : j < c) (hc : c ≤ 7) : ¬ nI c ≤ nI j := nI_ge h (by omega)
theorem xx_apT {post : Int32 → Prop} {c i j : Nat} {a e : Nat → Int32} (hc : c ≤ 7) (hi : i < c) (hj : j < c) (h : post 1) : wpX_arePoints post (nI c, a, e) (nI i) (nI j) :=
  br_f (ss_lo hi hc) (br_f (ss_hi hi hc) (br_f (ss_lo hj hc) (br_f (ss_hi hj hc) h)))
def ss_no (c : Nat) (x : Int32) : Prop := x < 0 ∨ nI c ≤ x
theorem xx_apF {post : Int32 → Prop} {c : Nat} {x y : Int32} {a e : Nat → Int32} (n : ss_no c x ∨ ss_no c y) (h : post 0) : wpX_arePoints post (nI c, a, e) x y := by
  refine br_c (fun _ => h) (fun g1 => br_c (fun _ => h) (fun g2 => br_c (fun _ => h) (fun g3 => br_c (fun _ => h) (fun g4 => ?_))))
  rcases n with (n | n) | (n | n)
  · exact absurd n g1
  · exact absurd n g2
  · exact absurd n g3
  · exact absurd n g4
theorem yy_isT {post : Int32 → Prop} {c i : Nat} {a m e : Nat → Int32} (hc : c ≤ 7) (hi : i < c) (h : post 1) : wpY_is post (nI c, a, m, e) (nI i) :=
  br_f (ss_lo hi hc) (br_f (ss_hi hi hc) h)
theorem yy_isF {post : Int32 → Prop} {c : Nat} {x : Int32} {a m e : Nat → Int32} (n : ss_no c x) (h : post 0) : wpY_is post (nI c, a, m, e) x := by
  refine br_c (fun _ => h) (fun g1 => br_c (fun _ => h) (fun g2 => ?_))
  rcases n with n | n
  · exact absurd n g1
  · exact absurd n g2
theorem ss_pnt (c : Nat) (x : Int32) (hc : c ≤ 7) : ss_no c x ∨ ∃ j : Nat, j < c ∧ x = nI j := by
  rcases pk_ix x (n := c) (by omega) with h | h | h
  · exact Or.inl (Or.inl h)
  · exact Or.inl (Or.inr h)
  · exact Or.inr h
