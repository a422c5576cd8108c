/-! numbers and stores: rows pasted from kit/rows, then my own -/
theorem pk_us {f : Nat → Int32} {k : Nat} {x : Int32} : upd f k x k = x := if_pos rfl
theorem pk_un {f : Nat → Int32} {k j : Nat} {x : Int32} (h : j ≠ k) : upd f k x j = f j := if_neg h
theorem pk_sub {a b : Nat} (h : b ≤ a) : nI a - nI b = nI (a - b) := by
  obtain ⟨c, rfl⟩ : ∃ c, a = c + b := ⟨a - b, by omega⟩
  rw [← nI_add, Int32.add_sub_cancel, Nat.add_sub_cancel]
theorem pk_m1 (n : Nat) : nI (n + 1) + (-1) = nI n := by
  rw [← nI_1, Int32.add_assoc, show (1 : Int32) + (-1) = 0 from rfl, Int32.add_zero]
theorem pk_mul (a b : Nat) : nI a * nI b = nI (a * b) := (Int32.ofNat_mul a b).symm
theorem pk_ix (x : Int32) {n : Nat} (hn : n < 2 ^ 31) : x < 0 ∨ nI n ≤ x ∨ ∃ j : Nat, j < n ∧ x = nI j := by
  by_cases h : x < 0
  · exact Or.inl h
  · obtain ⟨j, hj, rfl⟩ := nI_of h
    by_cases h2 : j < n
    · exact Or.inr (Or.inr ⟨j, h2, rfl⟩)
    · exact Or.inr (Or.inl (nI_le (by omega) hj))
theorem pk_le {x y : Int32} {A B : Prop} (a b : Nat) (f : a ≤ b → A) (g : b < a → B) (hx : x = nI a := by rfl) (hy : y = nI b := by rfl) (ha : a < 2 ^ 31 := by omega) (hb : b < 2 ^ 31 := by omega) : (x ≤ y → A) ∧ (¬ x ≤ y → B) := by
  subst hx hy
  rw [nI_leI ha hb]
  exact ⟨f, fun z => g (by omega)⟩
theorem pk_lt {x y : Int32} {A B : Prop} (a b : Nat) (f : a < b → A) (g : b ≤ a → B) (hx : x = nI a := by rfl) (hy : y = nI b := by rfl) (ha : a < 2 ^ 31 := by omega) (hb : b < 2 ^ 31 := by omega) : (x < y → A) ∧ (¬ x < y → B) := by
  subst hx hy
  rw [nI_ltI ha hb]
  exact ⟨f, fun z => g (by omega)⟩
theorem pk_eq {x y : Int32} {A B : Prop} (a b : Nat) (f : a = b → A) (g : a ≠ b → B) (hx : x = nI a := by rfl) (hy : y = nI b := by rfl) (ha : a < 2 ^ 31 := by omega) (hb : b < 2 ^ 31 := by omega) : (x = y → A) ∧ (¬ x = y → B) := by
  subst hx hy
  rw [nI_eq ha hb]
  exact ⟨f, g⟩
theorem pk_in {x : Int32} (n N : Nat) (h : n < N) (hx : x = nI n := by rfl) (hN : N < 2 ^ 31 := by omega) : vp_in x N := by
  subst hx
  exact vp_in_nI h hN
theorem pk_cl {x : Int32} (n : Nat) (hx : x = nI n := by rfl) (h : n < 2 ^ 31 := by omega) : x.toNatClampNeg = n := by
  subst hx
  exact nI_clamp h
theorem pk_tn {n : Nat} (h : n < 2 ^ 32) : (nI n).toBitVec.toNat = n := Nat.mod_eq_of_lt h
theorem pk_and (x : Int32) {m : Int32} (k : Nat) (hm : m.toBitVec.toNat = 2 ^ k - 1) : x &&& m = nI (x.toBitVec.toNat % 2 ^ k) := by
  apply Int32.toBitVec_inj.mp
  apply BitVec.eq_of_toNat_eq
  rw [Int32.toBitVec_and, BitVec.toNat_and, hm, Nat.and_two_pow_sub_one_eq_mod]
  show _ = (BitVec.ofNat 32 _).toNat
  rw [BitVec.toNat_ofNat]
  exact (Nat.mod_eq_of_lt (Nat.lt_of_le_of_lt (Nat.mod_le _ _) x.toBitVec.isLt)).symm
theorem pk_andN {n : Nat} (h : n < 2 ^ 32) {m : Int32} (k : Nat) (hm : m.toBitVec.toNat = 2 ^ k - 1) : nI n &&& m = nI (n % 2 ^ k) := by
  rw [pk_and _ k hm, pk_tn h]
theorem pk_shr (a s : Int32) (k : Nat) (hs : (s.toBitVec.smod 32).toNat = k) : (a >>> s).toInt = a.toInt >>> k := by
  show (a.toBitVec.sshiftRight (s.toBitVec.smod 32).toNat).toInt = _
  rw [hs, BitVec.toInt_sshiftRight]
  rfl
theorem pk_shrN {n : Nat} (h : n < 2 ^ 31) (s : Int32) (k : Nat) (hs : (s.toBitVec.smod 32).toNat = k) : nI n >>> s = nI (n / 2 ^ k) := by
  apply Int32.toInt_inj.mp
  have h2 : n / 2 ^ k ≤ n := Nat.div_le_self _ _
  rw [pk_shr _ _ k hs, nI_toInt h, nI_toInt (by omega), Int.shiftRight_eq_div_pow]
  rfl
theorem pk_loop {σ : Type} (W : Nat → Nat → σ → Prop) (I : Nat → σ → Prop) (e i0 : Nat) (s : σ) (hi : i0 ≤ e) (h0 : I i0 s) (hx : ∀ n s, I e s → W (n + 1) e s)
    (hs : ∀ n i s, i < e → I i s → (∀ s', I (i + 1) s' → W n (i + 1) s') → W (n + 1) i s) : ∃ n, W n i0 s :=
  ⟨e + 1, loop_i W I e hx hs (e + 1) i0 s hi (by omega) h0⟩
theorem pk_loopD {σ : Type} (W : Nat → Nat → σ → Prop) (I : Nat → σ → Prop) (hx : ∀ n s, I 0 s → W (n + 1) 0 s)
    (hs : ∀ n i s, I (i + 1) s → (∀ s', I i s' → W n i s') → W (n + 1) (i + 1) s) : ∀ (e : Nat) (s : σ), I e s → W (e + 1) e s := by
  intro e
  induction e with
  | zero => exact fun s h => hx 0 s h
  | succ e ih => exact fun s h => hs (e + 1) e s h (fun s' h' => ih s' h')
theorem bm_im {a b : Nat} (h : nI a = nI b) (ha : a < 2 ^ 31) (hb : b < 2 ^ 31) : a = b := (nI_eq ha hb).mp h
theorem bm_n1lt : (-1 : Int32) < 0 := by decide
theorem bm_n1le : ¬ (0 : Int32) ≤ -1 := by decide
theorem bm_ne1 {a : Nat} (h : a < 2 ^ 31) : ¬ nI a = -1 := by
  intro e
  have := nI_pos (n := a) h
  rw [e] at this
  exact this bm_n1lt
theorem bm_ne1' {a : Nat} (h : a < 2 ^ 31) : ¬ -1 = nI a := fun e => bm_ne1 h e.symm
theorem bm_vb0 : vp_nar .boolean 0 = 0 := by decide
theorem bm_vb1 : vp_nar .boolean 1 = 1 := by decide
theorem bm_nb0 : narrow .boolean (.int 0) = .int 0 := by decide
theorem bm_nb1 : narrow .boolean (.int 1) = .int 1 := by decide
theorem bm_n10 : ¬ (1 : Int32) = 0 := by decide
theorem bm_n01 : ¬ (0 : Int32) = 1 := by decide
theorem bm_01n {x : Int32} (h : x = 0 ∨ x = 1) : vp_nar .boolean x = x := by
  rcases h with rfl | rfl
  · exact bm_vb0
  · exact bm_vb1
theorem bm_01b {x : Int32} (h : x = 0 ∨ x = 1) : narrow .boolean (.int x) = .int x := by
  rcases h with rfl | rfl
  · exact bm_nb0
  · exact bm_nb1
theorem bm_01t {x : Int32} (h : x = 0 ∨ x = 1) (h0 : ¬ x = 0) : x = 1 := h.resolve_left h0
theorem bm_uc {f : Nat → Int32} {i j : Nat} {a b : Int32} (h : i ≠ j) : upd (upd f i a) j b = upd (upd f j b) i a := by
  funext k
  unfold upd
  by_cases h1 : k = j
  · by_cases h2 : k = i
    · exact absurd (h2.symm.trans h1) h
    · rw [if_pos h1, if_neg h2, if_pos h1]
  · rw [if_neg h1]
    by_cases h2 : k = i
    · rw [if_pos h2, if_pos h2]
    · rw [if_neg h2, if_neg h2, if_neg h1]
def bm_un (f : Nat → Nat) (k v : Nat) : Nat → Nat := fun j => if j = k then v else f j
theorem bm_un_s {f : Nat → Nat} {k v : Nat} : bm_un f k v k = v := if_pos rfl
theorem bm_un_n {f : Nat → Nat} {k v j : Nat} (h : j ≠ k) : bm_un f k v j = f j := if_neg h
def bm_clr (x : Int32) (i : Nat) (f : Nat → Int32) : Nat → Int32 := fun j => if j < i then x else f j
theorem bm_clr0 {x : Int32} {f : Nat → Int32} : bm_clr x 0 f = f := by
  funext j
  exact if_neg (Nat.not_lt_zero j)
theorem bm_clr_s {x : Int32} {i : Nat} {f : Nat → Int32} : upd (bm_clr x i f) i x = bm_clr x (i + 1) f := by
  funext j
  unfold upd bm_clr
  by_cases h1 : j = i
  · rw [if_pos h1, if_pos (by omega)]
  · rw [if_neg h1]
    by_cases h2 : j < i
    · rw [if_pos h2, if_pos (by omega)]
    · rw [if_neg h2, if_neg (by omega)]
theorem bm_clr_l {x : Int32} {i j : Nat} {f : Nat → Int32} (h : j < i) : bm_clr x i f j = x := if_pos h
def bm_cp (g : Nat → Int32) (i : Nat) (f : Nat → Int32) : Nat → Int32 := fun j => if j < i then g j else f j
theorem bm_cp0 {g f : Nat → Int32} : bm_cp g 0 f = f := by
  funext j
  exact if_neg (Nat.not_lt_zero j)
theorem bm_cp_s {g : Nat → Int32} {i : Nat} {f : Nat → Int32} : upd (bm_cp g i f) i (g i) = bm_cp g (i + 1) f := by
  funext j
  unfold upd bm_cp
  by_cases h1 : j = i
  · rw [if_pos h1, if_pos (by omega), h1]
  · rw [if_neg h1]
    by_cases h2 : j < i
    · rw [if_pos h2, if_pos (by omega)]
    · rw [if_neg h2, if_neg (by omega)]
theorem bm_cp_e {g g' : Nat → Int32} {i : Nat} {f : Nat → Int32} (h : ∀ j, j < i → g j = g' j) : bm_cp g i f = bm_cp g' i f := by
  funext j
  unfold bm_cp
  by_cases h2 : j < i
  · rw [if_pos h2, if_pos h2, h j h2]
  · rw [if_neg h2, if_neg h2]
def bm_mg (a b : Int32) : Int32 := if a = -1 then b else a
theorem bm_mg_as (a b c : Int32) : bm_mg (bm_mg a b) c = bm_mg a (bm_mg b c) := by
  unfold bm_mg
  by_cases h : a = -1
  · rw [if_pos h, if_pos h]
  · rw [if_neg h, if_neg h, if_neg h]
theorem bm_mg_l (b : Int32) : bm_mg (-1) b = b := if_pos rfl
theorem bm_mg_r (a : Int32) : bm_mg a (-1) = a := by
  unfold bm_mg
  by_cases h : a = -1
  · rw [if_pos h, h]
  · rw [if_neg h]
theorem bm_mg_n {a : Int32} (b : Int32) (h : ¬ a = -1) : bm_mg a b = a := if_neg h
theorem bm_cell {p t p' t' : Nat} (ht : t < 64) (ht' : t' < 64) (h : p * 64 + t = p' * 64 + t') : p = p' ∧ t = t' := by omega
theorem bm_m64 (p t : Nat) : nI p * 64 + nI t = nI (p * 64 + t) := by
  have e : nI p * 64 = nI (p * 64) := pk_mul p 64
  rw [e, nI_add]
theorem bm_sh1 {q : Nat} (h : q < 2 ^ 20) : nI (2 * q) >>> ((1 : Int32) &&& 31) = nI q := by
  rw [pk_shrN (by omega) _ 1 (by decide)]
  congr 1
  omega
theorem bm_sh2 {q : Nat} (h : q < 2 ^ 20) : nI (2 * q + 1) >>> ((1 : Int32) &&& 31) = nI q := by
  rw [pk_shrN (by omega) _ 1 (by decide)]
  congr 1
  omega
theorem bm_an1 {q : Nat} (h : q < 2 ^ 20) : nI (2 * q) &&& 1 = 0 := by
  rw [pk_andN (by omega) 1 (by decide)]
  rw [show 2 * q % 2 ^ 1 = 0 from by omega]
  rfl
theorem bm_an2 {q : Nat} (h : q < 2 ^ 20) : nI (2 * q + 1) &&& 1 = 1 := by
  rw [pk_andN (by omega) 1 (by decide)]
  rw [show (2 * q + 1) % 2 ^ 1 = 1 from by omega]
  rfl
theorem bm_x2 (q : Nat) : nI q * 2 = nI (2 * q) := by
  have e : nI q * 2 = nI (q * 2) := pk_mul q 2
  rw [e, Nat.mul_comm]
theorem bm_x21 (q : Nat) : nI q * 2 + 1 = nI (2 * q + 1) := by
  rw [bm_x2, nI_1]
theorem bm_nge {a : Nat} (h : a < 2 ^ 31) : ¬ nI a < 0 := nI_pos h
theorem bm_k4 {x : Int32} (h0 : ¬ x < 0) (h3 : x ≤ 3) : x = 0 ∨ x = 1 ∨ x = 2 ∨ x = 3 := by
  obtain ⟨j, hj, rfl⟩ := nI_of2 (x := x) (M := 3) (n := 3) (by decide) h0 h3
  have : j = 0 ∨ j = 1 ∨ j = 2 ∨ j = 3 := by omega
  rcases this with rfl | rfl | rfl | rfl
  · exact Or.inl rfl
  · exact Or.inr (Or.inl rfl)
  · exact Or.inr (Or.inr (Or.inl rfl))
  · exact Or.inr (Or.inr (Or.inr rfl))
theorem bm_k5 {x : Int32} (h0 : ¬ x < 0) (h3 : x ≤ 4) : x = 0 ∨ x = 1 ∨ x = 2 ∨ x = 3 ∨ x = 4 := by
  obtain ⟨j, hj, rfl⟩ := nI_of2 (x := x) (M := 4) (n := 4) (by decide) h0 h3
  have : j = 0 ∨ j = 1 ∨ j = 2 ∨ j = 3 ∨ j = 4 := by omega
  rcases this with rfl | rfl | rfl | rfl | rfl
  · exact Or.inl rfl
  · exact Or.inr (Or.inl rfl)
  · exact Or.inr (Or.inr (Or.inl rfl))
  · exact Or.inr (Or.inr (Or.inr (Or.inl rfl)))
  · exact Or.inr (Or.inr (Or.inr (Or.inr rfl)))
theorem bm_k3 {x : Int32} (h0 : ¬ x < 0) (h3 : x ≤ 2) : x = 0 ∨ x = 1 ∨ x = 2 := by
  obtain ⟨j, hj, rfl⟩ := nI_of2 (x := x) (M := 2) (n := 2) (by decide) h0 h3
  have : j = 0 ∨ j = 1 ∨ j = 2 := by omega
  rcases this with rfl | rfl | rfl
  · exact Or.inl rfl
  · exact Or.inr (Or.inl rfl)
  · exact Or.inr (Or.inr rfl)
