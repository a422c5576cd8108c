section
/-! numbers and stores: rows pasted from kit/rows, then my own -/
theorem pk_us {f : Nat → Int32} {k : Nat} {x : Int32} : upd f k x k = x := if_pos rfl
theorem pk_un {f : Nat → Int32} {k j : Nat} {x : Int32} (h : j ≠ k) : upd f k x j = f j := if_neg h
theorem pk_sub {a b : Nat} (h : b ≤ a) : nI a - nI b = nI (a - b) := by
  obtain ⟨c, rfl⟩ : ∃ c, a = c + b := ⟨a - b, by omega⟩
  rw [← nI_add, Int32.add_sub_cancel, Nat.add_sub_cancel]
theorem pk_m1 (n : Nat) : nI (n + 1) + (-1) = nI n := by
  rw [← nI_1, Int32.add_assoc, show (1 : Int32) + (-1) = 0 from rfl, Int32.add_zero]
theorem pk_mul (a b : Nat) : nI a * nI b = nI (a * b) := (Int32.ofNat_mul a b).symm
theorem pk_ix (x : Int32) {n : Nat} (hn : n < 2 ^ 31) : x < 0 ∨ nI n ≤ x ∨ ∃ j : Nat, j < n ∧ x = nI j := by
  by_cases h : x < 0
  · exact Or.inl h
  · obtain ⟨j, hj, rfl⟩ := nI_of h
    by_cases h2 : j < n
    · exact Or.inr (Or.inr ⟨j, h2, rfl⟩)
    · exact Or.inr (Or.inl (nI_le (by omega) hj))
theorem pk_le {x y : Int32} {A B : Prop} (a b : Nat) (f : a ≤ b → A) (g : b < a → B) (hx : x = nI a := by rfl) (hy : y = nI b := by rfl) (ha : a < 2 ^ 31 := by omega) (hb : b < 2 ^ 31 := by omega) : (x ≤ y → A) ∧ (¬ x ≤ y → B) := by
  subst hx hy
  rw [nI_leI ha hb]
  exact ⟨f, fun z => g (by omega)⟩
theorem pk_lt {x y : Int32} {A B : Prop} (a b : Nat) (f : a < b → A) (g : b ≤ a → B) (hx : x = nI a := by rfl) (hy : y = nI b := by rfl) (ha : a < 2 ^ 31 := by omega) (hb : b < 2 ^ 31 := by omega) : (x < y → A) ∧ (¬ x < y → B) := by
  subst hx hy
  rw [nI_ltI ha hb]
  exact ⟨f, fun z => g (by omega)⟩
theorem pk_eq {x y : Int32} {A B : Prop} (a b : Nat) (f : a = b → A) (g : a ≠ b → B) (hx : x = nI a := by rfl) (hy : y = nI b := by rfl) (ha : a < 2 ^ 31 := by omega) (hb : b < 2 ^ 31 := by omega) : (x = y → A) ∧ (¬ x = y → B) := by
  subst hx hy
  rw [nI_eq ha hb]
  exact ⟨f, g⟩
theorem pk_in {x : Int32} (n N : Nat) (h : n < N) (hx : x = nI n := by rfl) (hN : N < 2 ^ 31 := by omega) : vp_in x N := by
  subst hx
  exact vp_in_nI h hN
theorem pk_cl {x : Int32} (n : Nat) (hx : x = nI n := by rfl) (h : n < 2 ^ 31 := by omega) : x.toNatClampNeg = n := by
  subst hx
  exact nI_clamp h
theorem pk_tn {n : Nat} (h : n < 2 ^ 32) : (nI n).toBitVec.toNat = n := Nat.mod_eq_of_lt h
theorem pk_and (x : Int32) {m : Int32} (k : Nat) (hm : m.toBitVec.toNat = 2 ^ k - 1) : x &&& m = nI (x.toBitVec.toNat % 2 ^ k) := by
  apply Int32.toBitVec_inj.mp
  apply BitVec.eq_of_toNat_eq
  rw [Int32.toBitVec_and, BitVec.toNat_and, hm, Nat.and_two_pow_sub_one_eq_mod]
  show _ = (BitVec.ofNat 32 _).toNat
  rw [BitVec.toNat_ofNat]
  exact (Nat.mod_eq_of_lt (Nat.lt_of_le_of_lt (Nat.mod_le _ _) x.toBitVec.isLt)).symm
theorem pk_andN {n : Nat} (h : n < 2 ^ 32) {m : Int32} (k : Nat) (hm : m.toBitVec.toNat = 2 ^ k - 1) : nI n &&& m = nI (n % 2 ^ k) := by
  rw [pk_and _ k hm, pk_tn h]
theorem pk_shr (a s : Int32) (k : Nat) (hs : (s.toBitVec.smod 32).toNat = k) : (a >>> s).toInt = a.toInt >>> k := by
  show (a.toBitVec.sshiftRight (s.toBitVec.smod 32).toNat).toInt = _
  rw [hs, BitVec.toInt_sshiftRight]
  rfl
theorem pk_shrN {n : Nat} (h : n < 2 ^ 31) (s : Int32) (k : Nat) (hs : (s.toBitVec.smod 32).toNat = k) : nI n >>> s = nI (n / 2 ^ k) := by
  apply Int32.toInt_inj.mp
  have h2 : n / 2 ^ k ≤ n := Nat.div_le_self _ _
  rw [pk_shr _ _ k hs, nI_toInt h, nI_toInt (by omega), Int.shiftRight_eq_div_pow]
  rfl
theorem pk_loop {σ : Type} (W : Nat → Nat → σ → Prop) (I : Nat → σ → Prop) (e i0 : Nat) (s : σ) (hi : i0 ≤ e) (h0 : I i0 s) (hx : ∀ n s, I e s → W (n + 1) e s)
    (hs : ∀ n i s, i < e → I i s → (∀ s', I (i + 1) s' → W n (i + 1) s') → W (n + 1) i s) : ∃ n, W n i0 s :=
  ⟨e + 1, loop_i W I e hx hs (e + 1) i0 s hi (by omega) h0⟩
theorem pk_loopD {σ : Type} (W : Nat → Nat → σ → Prop) (I : Nat → σ → Prop) (hx : ∀ n s, I 0 s → W (n + 1) 0 s)
    (hs : ∀ n i s, I (i + 1) s → (∀ s', I i s' → W n i s') → W (n + 1) (i + 1) s) : ∀ (e : Nat) (s : σ), I e s → W (e + 1) e s := by
  intro e
  induction e with
  | zero => exact fun s h => hx 0 s h
  | succ e ih => exact fun s h => hs (e + 1) e s h (fun s' h' => ih s' h')
theorem bm_im {a b : Nat} (h : nI a = nI b) (ha : a < 2 ^ 31) (hb : b < 2 ^ 31) : a = b := (nI_eq ha hb).mp h
theorem bm_n1lt : (-1 : Int32) < 0 := by decide
theorem bm_n1le : ¬ (0 : Int32) ≤ -1 := by decide
theorem bm_ne1 {a : Nat} (h : a < 2 ^ 31) : ¬ nI a = -1 := by
  intro e
  have := nI_pos (n := a) h
  rw [e] at this
  exact this bm_n1lt
theorem bm_ne1' {a : Nat} (h : a < 2 ^ 31) : ¬ -1 = nI a := fun e => bm_ne1 h e.symm
theorem bm_vb0 : vp_nar .boolean 0 = 0 := by decide
theorem bm_vb1 : vp_nar .boolean 1 = 1 := by decide
theorem bm_nb0 : narrow .boolean (.int 0) = .int 0 := by decide
theorem bm_nb1 : narrow .boolean (.int 1) = .int 1 := by decide
theorem bm_n10 : ¬ (1 : Int32) = 0 := by decide
theorem bm_n01 : ¬ (0 : Int32) = 1 := by decide
theorem bm_01n {x : Int32} (h : x = 0 ∨ x = 1) : vp_nar .boolean x = x := by
  rcases h with rfl | rfl
  · exact bm_vb0
  · exact bm_vb1
theorem bm_01b {x : Int32} (h : x = 0 ∨ x = 1) : narrow .boolean (.int x) = .int x := by
  rcases h with rfl | rfl
  · exact bm_nb0
  · exact bm_nb1
theorem bm_01t {x : Int32} (h : x = 0 ∨ x = 1) (h0 : ¬ x = 0) : x = 1 := h.resolve_left h0
theorem bm_uc {f : Nat → Int32} {i j : Nat} {a b : Int32} (h : i ≠ j) : upd (upd f i a) j b = upd (upd f j b) i a := by
  funext k
  unfold upd
  by_cases h1 : k = j
  · by_cases h2 : k = i
    · exact absurd (h2.symm.trans h1) h
    · rw [if_pos h1, if_neg h2, if_pos h1]
  · rw [if_neg h1]
    by_cases h2 : k = i
    · rw [if_pos h2, if_pos h2]
    · rw [if_neg h2, if_neg h2, if_neg h1]
def bm_un (f : Nat → Nat) (k v : Nat) : Nat → Nat := fun j => if j = k then v else f j
theorem bm_un_s {f : Nat → Nat} {k v : Nat} : bm_un f k v k = v := if_pos rfl
theorem bm_un_n {f : Nat → Nat} {k v j : Nat} (h : j ≠ k) : bm_un f k v j = f j := if_neg h
def bm_clr (x : Int32) (i : Nat) (f : Nat → Int32) : Nat → Int32 := fun j => if j < i then x else f j
theorem bm_clr0 {x : Int32} {f : Nat → Int32} : bm_clr x 0 f = f := by
  funext j
  exact if_neg (Nat.not_lt_zero j)
theorem bm_clr_s {x : Int32} {i : Nat} {f : Nat → Int32} : upd (bm_clr x i f) i x = bm_clr x (i + 1) f := by
  funext j
  unfold upd bm_clr
  by_cases h1 : j = i
  · rw [if_pos h1, if_pos (by omega)]
  · rw [if_neg h1]
    by_cases h2 : j < i
    · rw [if_pos h2, if_pos (by omega)]
    · rw [if_neg h2, if_neg (by omega)]
theorem bm_clr_l {x : Int32} {i j : Nat} {f : Nat → Int32} (h : j < i) : bm_clr x i f j = x := if_pos h
def bm_cp (g : Nat → Int32) (i : Nat) (f : Nat → Int32) : Nat → Int32 := fun j => if j < i then g j else f j
theorem bm_cp0 {g f : Nat → Int32} : bm_cp g 0 f = f := by
  funext j
  exact if_neg (Nat.not_lt_zero j)
theorem bm_cp_s {g : Nat → Int32} {i : Nat} {f : Nat → Int32} : upd (bm_cp g i f) i (g i) = bm_cp g (i + 1) f := by
  funext j
  unfold upd bm_cp
  by_cases h1 : j = i
  · rw [if_pos h1, if_pos (by omega), h1]
  · rw [if_neg h1]
    by_cases h2 : j < i
    · rw [if_pos h2, if_pos (by omega)]
    · rw [if_neg h2, if_neg (by omega)]
theorem bm_cp_e {g g' : Nat → Int32} {i : Nat} {f : Nat → Int32} (h : ∀ j, j < i → g j = g' j) : bm_cp g i f = bm_cp g' i f := by
  funext j
  unfold bm_cp
  by_cases h2 : j < i
  · rw [if_pos h2, if_pos h2, h j h2]
  · rw [if_neg h2, if_neg h2]
def bm_mg (a b : Int32) : Int32 := if a = -1 then b else a
theorem bm_mg_as (a b c : Int32) : bm_mg (bm_mg a b) c = bm_mg a (bm_mg b c) := by
  unfold bm_mg
  by_cases h : a = -1
  · rw [if_pos h, if_pos h]
  · rw [if_neg h, if_neg h, if_neg h]
theorem bm_mg_l (b : Int32) : bm_mg (-1) b = b := if_pos rfl
theorem bm_mg_r (a : Int32) : bm_mg a (-1) = a := by
  unfold bm_mg
  by_cases h : a = -1
  · rw [if_pos h, h]
  · rw [if_neg h]
theorem bm_mg_n {a : Int32} (b : Int32) (h : ¬ a = -1) : bm_mg a b = a := if_neg h
theorem bm_cell {p t p' t' : Nat} (ht : t < 64) (ht' : t' < 64) (h : p * 64 + t = p' * 64 + t') : p = p' ∧ t = t' := by omega
theorem bm_m64 (p t : Nat) : nI p * 64 + nI t = nI (p * 64 + t) := by
  have e : nI p * 64 = nI (p * 64) := pk_mul p 64
  rw [e, nI_add]
theorem bm_sh1 {q : Nat} (h : q < 2 ^ 20) : nI (2 * q) >>> ((1 : Int32) &&& 31) = nI q := by
  rw [pk_shrN (by omega) _ 1 (by decide)]
  congr 1
  omega
theorem bm_sh2 {q : Nat} (h : q < 2 ^ 20) : nI (2 * q + 1) >>> ((1 : Int32) &&& 31) = nI q := by
  rw [pk_shrN (by omega) _ 1 (by decide)]
  congr 1
  omega
theorem bm_an1 {q : Nat} (h : q < 2 ^ 20) : nI (2 * q) &&& 1 = 0 := by
  rw [pk_andN (by omega) 1 (by decide)]
  rw [show 2 * q % 2 ^ 1 = 0 from by omega]
  rfl
theorem bm_an2 {q : Nat} (h : q < 2 ^ 20) : nI (2 * q + 1) &&& 1 = 1 := by
  rw [pk_andN (by omega) 1 (by decide)]
  rw [show (2 * q + 1) % 2 ^ 1 = 1 from by omega]
  rfl
theorem bm_x2 (q : Nat) : nI q * 2 = nI (2 * q) := by
  have e : nI q * 2 = nI (q * 2) := pk_mul q 2
  rw [e, Nat.mul_comm]
theorem bm_x21 (q : Nat) : nI q * 2 + 1 = nI (2 * q + 1) := by
  rw [bm_x2, nI_1]
theorem bm_nge {a : Nat} (h : a < 2 ^ 31) : ¬ nI a < 0 := nI_pos h
theorem bm_k4 {x : Int32} (h0 : ¬ x < 0) (h3 : x ≤ 3) : x = 0 ∨ x = 1 ∨ x = 2 ∨ x = 3 := by
  obtain ⟨j, hj, rfl⟩ := nI_of2 (x := x) (M := 3) (n := 3) (by decide) h0 h3
  have : j = 0 ∨ j = 1 ∨ j = 2 ∨ j = 3 := by omega
  rcases this with rfl | rfl | rfl | rfl
  · exact Or.inl rfl
  · exact Or.inr (Or.inl rfl)
  · exact Or.inr (Or.inr (Or.inl rfl))
  · exact Or.inr (Or.inr (Or.inr rfl))
theorem bm_k5 {x : Int32} (h0 : ¬ x < 0) (h3 : x ≤ 4) : x = 0 ∨ x = 1 ∨ x = 2 ∨ x = 3 ∨ x = 4 := by
  obtain ⟨j, hj, rfl⟩ := nI_of2 (x := x) (M := 4) (n := 4) (by decide) h0 h3
  have : j = 0 ∨ j = 1 ∨ j = 2 ∨ j = 3 ∨ j = 4 := by omega
  rcases this with rfl | rfl | rfl | rfl | rfl
  · exact Or.inl rfl
  · exact Or.inr (Or.inl rfl)
  · exact Or.inr (Or.inr (Or.inl rfl))
  · exact Or.inr (Or.inr (Or.inr (Or.inl rfl)))
  · exact Or.inr (Or.inr (Or.inr (Or.inr rfl)))
theorem bm_k3 {x : Int32} (h0 : ¬ x < 0) (h3 : x ≤ 2) : x = 0 ∨ x = 1 ∨ x = 2 := by
  obtain ⟨j, hj, rfl⟩ := nI_of2 (x := x) (M := 2) (n := 2) (by decide) h0 h3
  have : j = 0 ∨ j = 1 ∨ j = 2 := by omega
  rcases this with rfl | rfl | rfl
  · exact Or.inl rfl
  · exact Or.inr (Or.inl rfl)
  · exact Or.inr (Or.inr rfl)
end
section
/-! the pure picture: nodes of patterns and terms, fits, sizes, bindings -/
/-- pattern node p, six cases: wild, as, constructor of arity 0, 1, 2, or -/
def bm_Nd (ar kd pl pf ps pA pB pC : Nat → Int32) (cN p : Nat) : Prop :=
  (kd p = 0 ∧ pf p = -1 ∧ ps p = -1) ∨
  (∃ x q, kd p = 1 ∧ x < 8 ∧ q < p ∧ pl p = nI x ∧ pf p = nI q ∧ ps p = -1 ∧ pA p = nI x ∧ pB p = nI q) ∨
  (∃ c, kd p = 2 ∧ c < cN ∧ ar c = 0 ∧ pl p = nI c ∧ pf p = -1 ∧ ps p = -1 ∧ pA p = nI c) ∨
  (∃ c q, kd p = 2 ∧ c < cN ∧ ar c = 1 ∧ q < p ∧ pl p = nI c ∧ pf p = nI q ∧ ps p = -1 ∧ pA p = nI c ∧ pB p = nI q) ∨
  (∃ c q r, kd p = 2 ∧ c < cN ∧ ar c = 2 ∧ q < p ∧ r < p ∧ q ≠ r ∧ pl p = nI c ∧ pf p = nI q ∧ ps p = nI r ∧ pA p = nI c ∧ pB p = nI q ∧ pC p = nI r) ∨
  (∃ q r, kd p = 3 ∧ q < p ∧ r < p ∧ q ≠ r ∧ pf p = nI q ∧ ps p = nI r ∧ pA p = nI q ∧ pB p = nI r)
def bm_Ch (pf ps : Nat → Int32) (p i : Nat) : Prop := pf p = nI i ∨ ps p = nI i
/-- term node i: constructor, children, height -/
def bm_Tm (ar tc t0 t1 hX : Nat → Int32) (H : Nat → Nat) (cN i : Nat) : Prop :=
  ∃ c, c < cN ∧ tc i = nI c ∧ hX i = nI (H i) ∧ 1 ≤ H i ∧ H i ≤ i + 1 ∧
    ((ar c = 0 ∧ t0 i = -1 ∧ t1 i = -1 ∧ H i = 1) ∨
     (∃ j, ar c = 1 ∧ t1 i = -1 ∧ j < i ∧ t0 i = nI j ∧ H i = H j + 1) ∨
     (∃ j k, ar c = 2 ∧ j < i ∧ k < i ∧ t0 i = nI j ∧ t1 i = nI k ∧ H i = (if H j < H k then H k else H j) + 1))
/-- what the fit v of node p at term t must be, by the table so far -/
def bm_NF (kd pl pf ps tc t0 t1 fi : Nat → Int32) (p t : Nat) (v : Int32) : Prop :=
  (kd p = 0 → v = 1) ∧
  (kd p = 1 → v = fi ((pf p).toNatClampNeg * 64 + t)) ∧
  (kd p = 2 → (v = 1 ↔ pl p = tc t ∧ (pf p = -1 ∨ fi ((pf p).toNatClampNeg * 64 + (t0 t).toNatClampNeg) = 1) ∧ (ps p = -1 ∨ fi ((ps p).toNatClampNeg * 64 + (t1 t).toNatClampNeg) = 1))) ∧
  (kd p = 3 → (v = 1 ↔ fi ((pf p).toNatClampNeg * 64 + t) = 1 ∨ fi ((ps p).toNatClampNeg * 64 + t) = 1))
def bm_Fe (kd pl pf ps tc t0 t1 fi : Nat → Int32) (p t : Nat) : Prop := bm_NF kd pl pf ps tc t0 t1 fi p t (fi (p * 64 + t))
def bm_szc (sz : Nat → Nat) (x : Int32) : Nat := if x = -1 then 0 else sz x.toNatClampNeg
def bm_Sz (pf ps : Nat → Int32) (sz : Nat → Nat) (p : Nat) : Prop := sz p = 1 + bm_szc sz (pf p) + bm_szc sz (ps p)
def bm_sum (us : Nat → Int32) (sz : Nat → Nat) : Nat → Nat
  | 0 => 0
  | n + 1 => bm_sum us sz n + (if us n = 0 then sz n else 0)
def bm_mark (us : Nat → Int32) (f : Int32) : Nat → Int32 := if f = -1 then us else upd us f.toNatClampNeg 1
theorem bm_mark_n {us : Nat → Int32} : bm_mark us (-1) = us := if_pos rfl
theorem bm_mark_s {us : Nat → Int32} {q : Nat} (h : q < 2 ^ 31) : bm_mark us (nI q) = upd us q 1 := by
  unfold bm_mark
  rw [if_neg (bm_ne1 h), nI_clamp h]
theorem bm_szc_n {sz : Nat → Nat} : bm_szc sz (-1) = 0 := if_pos rfl
theorem bm_szc_s {sz : Nat → Nat} {q : Nat} (h : q < 2 ^ 31) : bm_szc sz (nI q) = sz q := by
  unfold bm_szc
  rw [if_neg (bm_ne1 h), nI_clamp h]
theorem bm_sum_out {us : Nat → Int32} {sz : Nat → Nat} {q : Nat} {v : Int32} : ∀ n, n ≤ q → bm_sum (upd us q v) sz n = bm_sum us sz n := by
  intro n
  induction n with
  | zero => intro _; rfl
  | succ n ih =>
    intro h
    show bm_sum (upd us q v) sz n + (if upd us q v n = 0 then sz n else 0) = bm_sum us sz n + (if us n = 0 then sz n else 0)
    rw [ih (by omega), pk_un (by omega)]
theorem bm_sum_sz {us : Nat → Int32} {sz sz' : Nat → Nat} : ∀ n, (∀ p, p < n → sz' p = sz p) → bm_sum us sz' n = bm_sum us sz n := by
  intro n
  induction n with
  | zero => intro _; rfl
  | succ n ih =>
    intro h
    show bm_sum us sz' n + (if us n = 0 then sz' n else 0) = bm_sum us sz n + (if us n = 0 then sz n else 0)
    rw [ih (fun p hp => h p (by omega)), h n (by omega)]
theorem bm_sum_use {us : Nat → Int32} {sz : Nat → Nat} {q : Nat} (h0 : us q = 0) : ∀ n, q < n → bm_sum (upd us q 1) sz n + sz q = bm_sum us sz n := by
  intro n
  induction n with
  | zero => intro h; omega
  | succ n ih =>
    intro h
    show bm_sum (upd us q 1) sz n + (if upd us q 1 n = 0 then sz n else 0) + sz q = bm_sum us sz n + (if us n = 0 then sz n else 0)
    by_cases e : n = q
    · subst e
      rw [bm_sum_out n (Nat.le_refl n), pk_us, if_neg bm_n10, if_pos h0]
      omega
    · rw [pk_un e, ← ih (by omega)]
      omega
theorem bm_sum_ge {us : Nat → Int32} {sz : Nat → Nat} {q n : Nat} (h0 : us q = 0) (h : q < n) : sz q ≤ bm_sum us sz n := by
  have := bm_sum_use (sz := sz) h0 n h
  omega
theorem bm_sum_le {us : Nat → Int32} {sz : Nat → Nat} {q n : Nat} (h0 : us q = 0) (h : q < n) : bm_sum (upd us q 1) sz n ≤ bm_sum us sz n := by
  have := bm_sum_use (sz := sz) h0 n h
  omega
/-- a child that may be taken: none, or a free node -/
def bm_Fr (us : Nat → Int32) (n : Nat) (f : Int32) : Prop := f = -1 ∨ ∃ q, q < n ∧ f = nI q ∧ us q = 0
theorem bm_sum_mark {us : Nat → Int32} {sz : Nat → Nat} {n : Nat} {f : Int32} (hn : n ≤ 64) (h : bm_Fr us n f) : bm_sum (bm_mark us f) sz n + bm_szc sz f = bm_sum us sz n := by
  rcases h with rfl | ⟨q, hq, rfl, h0⟩
  · rw [bm_mark_n, bm_szc_n]
    rfl
  · rw [bm_mark_s (by omega), bm_szc_s (by omega)]
    exact bm_sum_use h0 n hq
theorem bm_mark_o {us : Nat → Int32} {n i : Nat} {f : Int32} (hn : n ≤ 64) (h : bm_Fr us n f) (hi : ¬ f = nI i) : bm_mark us f i = us i := by
  rcases h with rfl | ⟨q, hq, rfl, h0⟩
  · rw [bm_mark_n]
  · rw [bm_mark_s (by omega)]
    exact pk_un (fun e => hi (by rw [e]))
theorem bm_mark_1 {us : Nat → Int32} {i : Nat} {f : Int32} (h : us i = 1) : bm_mark us f i = 1 := by
  unfold bm_mark
  by_cases h1 : f = -1
  · rw [if_pos h1]
    exact h
  · rw [if_neg h1]
    by_cases h2 : i = f.toNatClampNeg
    · rw [h2, pk_us]
    · rw [pk_un h2]
      exact h
theorem bm_mark_i {us : Nat → Int32} {q : Nat} (h : q < 2 ^ 31) : bm_mark us (nI q) q = 1 := by
  rw [bm_mark_s h, pk_us]
theorem bm_mark_01 {us : Nat → Int32} {f : Int32} (h : ∀ p, us p = 0 ∨ us p = 1) : ∀ p, bm_mark us f p = 0 ∨ bm_mark us f p = 1 := by
  intro p
  unfold bm_mark
  by_cases h1 : f = -1
  · rw [if_pos h1]
    exact h p
  · rw [if_neg h1]
    by_cases h2 : p = f.toNatClampNeg
    · rw [h2, pk_us]
      exact Or.inr rfl
    · rw [pk_un h2]
      exact h p
/-- the patterns' invariant -/
def bm_IP (ar kd pl pf ps pA pB pC us : Nat → Int32) (sz : Nat → Nat) (cN pN : Nat) : Prop :=
  pN ≤ 64 ∧ (∀ p, p < pN → bm_Nd ar kd pl pf ps pA pB pC cN p) ∧ (∀ p, p < pN → bm_Sz pf ps sz p) ∧
  (∀ p p' i, p < pN → p' < pN → i < 64 → bm_Ch pf ps p i → bm_Ch pf ps p' i → p = p') ∧
  (∀ p i, p < pN → i < 64 → bm_Ch pf ps p i → us i = 1) ∧
  (∀ p, us p = 0 ∨ us p = 1) ∧ bm_sum us sz pN ≤ pN
theorem bm_Nd_c {ar kd pl pf ps pA pB pC kd' pl' pf' ps' pA' pB' pC' : Nat → Int32} {cN p : Nat} (h : bm_Nd ar kd pl pf ps pA pB pC cN p)
    (h1 : kd' p = kd p) (h2 : pl' p = pl p) (h3 : pf' p = pf p) (h4 : ps' p = ps p) (h5 : pA' p = pA p) (h6 : pB' p = pB p) (h7 : pC' p = pC p) : bm_Nd ar kd' pl' pf' ps' pA' pB' pC' cN p := by
  unfold bm_Nd at h ⊢
  rw [h1, h2, h3, h4, h5, h6, h7]
  exact h
theorem bm_Nd_lt {ar kd pl pf ps pA pB pC : Nat → Int32} {cN p i : Nat} (h : bm_Nd ar kd pl pf ps pA pB pC cN p) (hp : p < 2 ^ 31) (hi : i < 2 ^ 31) (hc : bm_Ch pf ps p i) : i < p := by
  have n1 : ¬ (-1 : Int32) = nI i := bm_ne1' hi
  rcases h with ⟨_, e1, e2⟩ | ⟨x, q, _, _, hq, _, e1, e2, _⟩ | ⟨c, _, _, _, _, e1, e2, _⟩ | ⟨c, q, _, _, _, hq, _, e1, e2, _⟩ | ⟨c, q, r, _, _, _, hq, hr, _, _, e1, e2, _⟩ | ⟨q, r, _, hq, hr, _, e1, e2, _⟩ <;>
    rcases hc with hc | hc <;> (first | rw [e1] at hc | rw [e2] at hc) <;> first | exact absurd hc n1 | (have := bm_im hc (by omega) hi; omega)
theorem bm_szc_u {sz : Nat → Nat} {us : Nat → Int32} {n v : Nat} {f : Int32} (hn : n ≤ 64) (h : bm_Fr us n f) : bm_szc (bm_un sz n v) f = bm_szc sz f := by
  rcases h with rfl | ⟨q, hq, rfl, _⟩
  · rw [bm_szc_n, bm_szc_n]
  · rw [bm_szc_s (by omega), bm_szc_s (by omega), bm_un_n (by omega)]
theorem bm_Nd_k {ar kd pl pf ps pA pB pC : Nat → Int32} {cN p : Nat} (h : bm_Nd ar kd pl pf ps pA pB pC cN p) : (pf p = -1 ∨ ∃ q, q < p ∧ pf p = nI q) ∧ (ps p = -1 ∨ ∃ q, q < p ∧ ps p = nI q) := by
  rcases h with ⟨_, e1, e2⟩ | ⟨x, q, _, _, hq, _, e1, e2, _⟩ | ⟨c, _, _, _, _, e1, e2, _⟩ | ⟨c, q, _, _, _, hq, _, e1, e2, _⟩ | ⟨c, q, r, _, _, _, hq, hr, _, _, e1, e2, _⟩ | ⟨q, r, _, hq, hr, _, e1, e2, _⟩
  · exact ⟨Or.inl e1, Or.inl e2⟩
  · exact ⟨Or.inr ⟨q, hq, e1⟩, Or.inl e2⟩
  · exact ⟨Or.inl e1, Or.inl e2⟩
  · exact ⟨Or.inr ⟨q, hq, e1⟩, Or.inl e2⟩
  · exact ⟨Or.inr ⟨q, hq, e1⟩, Or.inr ⟨r, hr, e2⟩⟩
  · exact ⟨Or.inr ⟨q, hq, e1⟩, Or.inr ⟨r, hr, e2⟩⟩
theorem bm_szc_k {sz : Nat → Nat} {n v p : Nat} {x : Int32} (hn : n ≤ 64) (hp : p < n) (h : x = -1 ∨ ∃ q, q < p ∧ x = nI q) : bm_szc (bm_un sz n v) x = bm_szc sz x := by
  rcases h with rfl | ⟨q, hq, rfl⟩
  · rw [bm_szc_n, bm_szc_n]
  · rw [bm_szc_s (by omega), bm_szc_s (by omega), bm_un_n (by omega)]
theorem bm_Fr_i {us : Nat → Int32} {n i : Nat} {f : Int32} (hn : n ≤ 64) (hi : i < 64) (h : bm_Fr us n f) (e : f = nI i) : us i = 0 ∧ i < n := by
  rcases h with rfl | ⟨q, hq, rfl, h0⟩
  · exact absurd e (bm_ne1' (by omega))
  · have := bm_im e (by omega) (by omega)
    subst this
    exact ⟨h0, hq⟩
theorem bm_IP_new {ar kd pl pf ps pA pB pC us : Nat → Int32} {sz : Nat → Nat} {cN pN : Nat} (h : bm_IP ar kd pl pf ps pA pB pC us sz cN pN) (hN : pN < 64) (k a f s A B C : Int32)
    (hf : bm_Fr us pN f) (hs : bm_Fr us pN s) (hfs : f = -1 ∨ s = -1 ∨ f ≠ s)
    (hnd : bm_Nd ar (upd kd pN k) (upd pl pN a) (upd pf pN f) (upd ps pN s) (upd pA pN A) (upd pB pN B) (upd pC pN C) cN pN) :
    bm_IP ar (upd kd pN k) (upd pl pN a) (upd pf pN f) (upd ps pN s) (upd pA pN A) (upd pB pN B) (upd pC pN C) (bm_mark (bm_mark (upd us pN 0) f) s) (bm_un sz pN (1 + bm_szc sz f + bm_szc sz s)) cN (pN + 1) := by
  obtain ⟨_, hNd, hSz, hUq, hUs, h01, hSum⟩ := h
  have hf0 : bm_Fr (upd us pN 0) pN f := by
    rcases hf with e | ⟨q, hq, e, h0⟩
    · exact Or.inl e
    · exact Or.inr ⟨q, hq, e, by rw [pk_un (by omega)]; exact h0⟩
  have hs0 : bm_Fr (upd us pN 0) pN s := by
    rcases hs with e | ⟨q, hq, e, h0⟩
    · exact Or.inl e
    · exact Or.inr ⟨q, hq, e, by rw [pk_un (by omega)]; exact h0⟩
  have hs1 : bm_Fr (bm_mark (upd us pN 0) f) pN s := by
    rcases hs0 with e | ⟨q, hq, e, h0⟩
    · exact Or.inl e
    · refine Or.inr ⟨q, hq, e, ?_⟩
      rw [bm_mark_o (by omega) hf0 ?_]
      · exact h0
      · intro z
        rcases hfs with e1 | e1 | e1
        · rw [e1] at z
          exact bm_ne1' (by omega) z
        · rw [e] at e1
          exact bm_ne1 (by omega) e1
        · exact e1 (z.trans e.symm)
  have old : ∀ {p i : Nat}, p < pN → i < 64 → bm_Ch (upd pf pN f) (upd ps pN s) p i → bm_Ch pf ps p i := by
    intro p i hp hi hc
    unfold bm_Ch at hc ⊢
    rw [pk_un (by omega), pk_un (by omega)] at hc
    exact hc
  have new : ∀ {i : Nat}, i < 64 → bm_Ch (upd pf pN f) (upd ps pN s) pN i → us i = 0 := by
    intro i hi hc
    unfold bm_Ch at hc
    rw [pk_us, pk_us] at hc
    rcases hc with e | e
    · exact (bm_Fr_i (by omega) hi hf e).1
    · exact (bm_Fr_i (by omega) hi hs e).1
  refine ⟨by omega, ?_, ?_, ?_, ?_, ?_, ?_⟩
  · intro p hp
    by_cases e : p = pN
    · rw [e]
      exact hnd
    · exact bm_Nd_c (hNd p (by omega)) (pk_un e) (pk_un e) (pk_un e) (pk_un e) (pk_un e) (pk_un e) (pk_un e)
  · intro p hp
    unfold bm_Sz
    by_cases e : p = pN
    · subst e
      rw [bm_un_s, pk_us, pk_us, bm_szc_u (by omega) hf, bm_szc_u (by omega) hs]
    · have hk := bm_Nd_k (hNd p (by omega))
      rw [bm_un_n e, pk_un e, pk_un e, bm_szc_k (by omega) (by omega) hk.1, bm_szc_k (by omega) (by omega) hk.2]
      exact hSz p (by omega)
  · intro p p' i hp hp' hi hc hc'
    by_cases e : p = pN
    · subst e
      by_cases e' : p' = p
      · exact e'.symm
      · have z0 := new hi hc
        have z1 := hUs p' i (by omega) hi (old (by omega) hi hc')
        rw [z0] at z1
        exact absurd z1 bm_n01
    · by_cases e' : p' = pN
      · subst e'
        have z0 := new hi hc'
        have z1 := hUs p i (by omega) hi (old (by omega) hi hc)
        rw [z0] at z1
        exact absurd z1 bm_n01
      · exact hUq p p' i (by omega) (by omega) hi (old (by omega) hi hc) (old (by omega) hi hc')
  · intro p i hp hi hc
    by_cases e : p = pN
    · subst e
      unfold bm_Ch at hc
      rw [pk_us, pk_us] at hc
      rcases hc with e | e
      · apply bm_mark_1
        rw [e]
        exact bm_mark_i (by omega)
      · rw [e]
        exact bm_mark_i (by omega)
    · have hc2 := old (by omega) hi hc
      have hl := bm_Nd_lt (hNd p (by omega)) (by omega) (by omega) hc2
      apply bm_mark_1
      apply bm_mark_1
      rw [pk_un (by omega)]
      exact hUs p i (by omega) hi hc2
  · apply bm_mark_01
    apply bm_mark_01
    intro p
    by_cases e : p = pN
    · rw [e, pk_us]
      exact Or.inl rfl
    · rw [pk_un e]
      exact h01 p
  · have e1 := bm_sum_mark (sz := sz) (by omega) hs1
    have e2 := bm_sum_mark (sz := sz) (by omega) hf0
    have e3 : bm_sum (upd us pN 0) sz pN = bm_sum us sz pN := bm_sum_out pN (Nat.le_refl _)
    have e4 : bm_sum (bm_mark (bm_mark (upd us pN 0) f) s) (bm_un sz pN (1 + bm_szc sz f + bm_szc sz s)) pN = bm_sum (bm_mark (bm_mark (upd us pN 0) f) s) sz pN := bm_sum_sz pN (fun p hp => bm_un_n (by omega))
    show bm_sum _ _ pN + (if _ = 0 then bm_un sz pN (1 + bm_szc sz f + bm_szc sz s) pN else 0) ≤ pN + 1
    rw [e4, bm_un_s]
    split <;> omega
/-- a free node is taken (by a row) -/
theorem bm_IP_take {ar kd pl pf ps pA pB pC us : Nat → Int32} {sz : Nat → Nat} {cN pN q : Nat} (h : bm_IP ar kd pl pf ps pA pB pC us sz cN pN) (hq : q < pN) (h0 : us q = 0) :
    bm_IP ar kd pl pf ps pA pB pC (upd us q 1) sz cN pN ∧ sz q ≤ 64 := by
  obtain ⟨hN, hNd, hSz, hUq, hUs, h01, hSum⟩ := h
  refine ⟨⟨hN, hNd, hSz, hUq, ?_, ?_, ?_⟩, ?_⟩
  · intro p i hp hi hc
    by_cases e : i = q
    · rw [e, pk_us]
    · rw [pk_un e]
      exact hUs p i hp hi hc
  · intro p
    by_cases e : p = q
    · rw [e, pk_us]
      exact Or.inr rfl
    · rw [pk_un e]
      exact h01 p
  · have := bm_sum_le (sz := sz) h0 hq
    omega
  · have := bm_sum_ge (sz := sz) h0 hq
    omega
theorem bm_IP_0 {ar kd pl pf ps pA pB pC us : Nat → Int32} {sz : Nat → Nat} {cN : Nat} (h01 : ∀ p, us p = 0 ∨ us p = 1) : bm_IP ar kd pl pf ps pA pB pC us sz cN 0 :=
  ⟨by omega, fun _ h => absurd h (Nat.not_lt_zero _), fun _ h => absurd h (Nat.not_lt_zero _), fun _ _ _ h => absurd h (Nat.not_lt_zero _), fun _ _ h => absurd h (Nat.not_lt_zero _), h01, Nat.le_refl 0⟩
end
section
/-! the table of fits: stores; and the bindings of a row -/
theorem bm_neg1 : (-1 : Int32).toNatClampNeg = 0 := by decide
theorem bm_kb {x : Int32} {p : Nat} (hp : p < 2 ^ 31) (h : x = -1 ∨ ∃ q, q < p ∧ x = nI q) : x.toNatClampNeg ≤ p := by
  rcases h with rfl | ⟨q, hq, rfl⟩
  · rw [bm_neg1]
    omega
  · rw [nI_clamp (by omega)]
    omega
theorem bm_Tm_k {ar tc t0 t1 hX : Nat → Int32} {H : Nat → Nat} {cN i : Nat} (h : bm_Tm ar tc t0 t1 hX H cN i) : (t0 i = -1 ∨ ∃ q, q < i ∧ t0 i = nI q) ∧ (t1 i = -1 ∨ ∃ q, q < i ∧ t1 i = nI q) := by
  obtain ⟨c, _, _, _, _, _, ⟨_, e1, e2, _⟩ | ⟨j, _, e2, hj, e1, _⟩ | ⟨j, k, _, hj, hk, e1, e2, _⟩⟩ := h
  · exact ⟨Or.inl e1, Or.inl e2⟩
  · exact ⟨Or.inr ⟨j, hj, e1⟩, Or.inl e2⟩
  · exact ⟨Or.inr ⟨j, hj, e1⟩, Or.inr ⟨k, hk, e2⟩⟩
theorem bm_Fe_upd {ar kd pl pf ps pA pB pC tc t0 t1 hX fi : Nat → Int32} {H : Nat → Nat} {cN p t P T : Nat} {v : Int32} (hN : bm_Nd ar kd pl pf ps pA pB pC cN p) (hT : bm_Tm ar tc t0 t1 hX H cN t) (hp : p < 64) (ht : t < 64) (hT6 : T < 64)
    (h : bm_Fe kd pl pf ps tc t0 t1 fi p t) (hne : ∀ q u, q ≤ p → u ≤ t → ¬ (q = P ∧ u = T)) : bm_Fe kd pl pf ps tc t0 t1 (upd fi (P * 64 + T) v) p t := by
  have E : ∀ a b, a ≤ p → b ≤ t → upd fi (P * 64 + T) v (a * 64 + b) = fi (a * 64 + b) := fun a b ha hb => pk_un (fun e => hne a b ha hb (bm_cell (by omega) hT6 e))
  have k1 := bm_kb (by omega) (bm_Nd_k hN).1
  have k2 := bm_kb (by omega) (bm_Nd_k hN).2
  have k3 := bm_kb (by omega) (bm_Tm_k hT).1
  have k4 := bm_kb (by omega) (bm_Tm_k hT).2
  unfold bm_Fe bm_NF at h ⊢
  rw [E p t (Nat.le_refl _) (Nat.le_refl _), E _ t k1 (Nat.le_refl _), E _ _ k1 k3, E _ _ k2 k4, E _ t k2 (Nat.le_refl _)]
  exact h
theorem bm_Fe_new {ar kd pl pf ps pA pB pC tc t0 t1 hX fi : Nat → Int32} {H : Nat → Nat} {cN p t : Nat} {v : Int32} (hN : bm_Nd ar kd pl pf ps pA pB pC cN p) (hT : bm_Tm ar tc t0 t1 hX H cN t) (hp : p < 64) (ht : t < 64)
    (h : bm_NF kd pl pf ps tc t0 t1 fi p t v) : bm_Fe kd pl pf ps tc t0 t1 (upd fi (p * 64 + t) v) p t := by
  have E : ∀ a b, a < p → b ≤ t → upd fi (p * 64 + t) v (a * 64 + b) = fi (a * 64 + b) := fun a b ha hb => pk_un (by omega)
  have k3 := bm_kb (by omega) (bm_Tm_k hT).1
  have k4 := bm_kb (by omega) (bm_Tm_k hT).2
  obtain ⟨h0, h1, h2, h3⟩ := h
  unfold bm_Fe bm_NF
  rw [pk_us]
  rcases hN with ⟨ek, e1, e2⟩ | ⟨x, q, ek, _, hq, _, e1, e2, _⟩ | ⟨c, ek, _, _, _, e1, e2, _⟩ | ⟨c, q, ek, _, _, hq, _, e1, e2, _⟩ | ⟨c, q, r, ek, _, _, hq, hr, _, _, e1, e2, _⟩ | ⟨q, r, ek, hq, hr, _, e1, e2, _⟩
  · refine ⟨fun _ => h0 ek, fun z => ?_, fun z => ?_, fun z => ?_⟩ <;> (rw [ek] at z; exact absurd z (by decide))
  · refine ⟨fun z => ?_, fun _ => ?_, fun z => ?_, fun z => ?_⟩
    · rw [ek] at z; exact absurd z (by decide)
    · have h1' := h1 ek
      rw [e1, nI_clamp (by omega)] at h1' ⊢
      rw [E q t hq (Nat.le_refl _)]
      exact h1'
    · rw [ek] at z; exact absurd z (by decide)
    · rw [ek] at z; exact absurd z (by decide)
  · refine ⟨fun z => ?_, fun z => ?_, fun _ => ?_, fun z => ?_⟩
    · rw [ek] at z; exact absurd z (by decide)
    · rw [ek] at z; exact absurd z (by decide)
    · rw [h2 ek]
      exact ⟨fun z => ⟨z.1, Or.inl e1, Or.inl e2⟩, fun z => ⟨z.1, Or.inl e1, Or.inl e2⟩⟩
    · rw [ek] at z; exact absurd z (by decide)
  · refine ⟨fun z => ?_, fun z => ?_, fun _ => ?_, fun z => ?_⟩
    · rw [ek] at z; exact absurd z (by decide)
    · rw [ek] at z; exact absurd z (by decide)
    · have e3 : (pf p).toNatClampNeg = q := by rw [e1, nI_clamp (by omega)]
      rw [h2 ek, e3, E q _ hq k3]
      exact ⟨fun z => ⟨z.1, z.2.1, Or.inl e2⟩, fun z => ⟨z.1, z.2.1, Or.inl e2⟩⟩
    · rw [ek] at z; exact absurd z (by decide)
  · refine ⟨fun z => ?_, fun z => ?_, fun _ => ?_, fun z => ?_⟩
    · rw [ek] at z; exact absurd z (by decide)
    · rw [ek] at z; exact absurd z (by decide)
    · have e3 : (pf p).toNatClampNeg = q := by rw [e1, nI_clamp (by omega)]
      have e4 : (ps p).toNatClampNeg = r := by rw [e2, nI_clamp (by omega)]
      rw [h2 ek, e3, e4, E q _ hq k3, E r _ hr k4]
    · rw [ek] at z; exact absurd z (by decide)
  · refine ⟨fun z => ?_, fun z => ?_, fun z => ?_, fun _ => ?_⟩
    · rw [ek] at z; exact absurd z (by decide)
    · rw [ek] at z; exact absurd z (by decide)
    · rw [ek] at z; exact absurd z (by decide)
    · have e3 : (pf p).toNatClampNeg = q := by rw [e1, nI_clamp (by omega)]
      have e4 : (ps p).toNatClampNeg = r := by rw [e2, nI_clamp (by omega)]
      rw [h3 ek, e3, e4, E q _ hq (Nat.le_refl _), E r _ hr (Nat.le_refl _)]
theorem bm_Fe_c {kd pl pf ps tc t0 t1 kd' pl' pf' ps' tc' t0' t1' fi : Nat → Int32} {p t : Nat} (h : bm_Fe kd pl pf ps tc t0 t1 fi p t)
    (h1 : kd' p = kd p) (h2 : pl' p = pl p) (h3 : pf' p = pf p) (h4 : ps' p = ps p) (h5 : tc' t = tc t) (h6 : t0' t = t0 t) (h7 : t1' t = t1 t) : bm_Fe kd' pl' pf' ps' tc' t0' t1' fi p t := by
  unfold bm_Fe bm_NF at h ⊢
  rw [h1, h2, h3, h4, h5, h6, h7]
  exact h
theorem bm_Tm_c {ar tc t0 t1 hX tc' t0' t1' hX' : Nat → Int32} {H H' : Nat → Nat} {cN i : Nat} (h : bm_Tm ar tc t0 t1 hX H cN i)
    (h1 : tc' i = tc i) (h2 : t0' i = t0 i) (h3 : t1' i = t1 i) (h4 : hX' i = hX i) (h5 : ∀ j, j ≤ i → H' j = H j) : bm_Tm ar tc' t0' t1' hX' H' cN i := by
  obtain ⟨c, hc, a1, a2, a3, a4, a5⟩ := h
  refine ⟨c, hc, h1.trans a1, by rw [h4, h5 i (Nat.le_refl _)]; exact a2, by rw [h5 i (Nat.le_refl _)]; exact a3, by rw [h5 i (Nat.le_refl _)]; exact a4, ?_⟩
  rcases a5 with ⟨b1, b2, b3, b4⟩ | ⟨j, b1, b2, b3, b4, b5⟩ | ⟨j, k, b1, b2, b3, b4, b5, b6⟩
  · exact Or.inl ⟨b1, h2.trans b2, h3.trans b3, by rw [h5 i (Nat.le_refl _)]; exact b4⟩
  · exact Or.inr (Or.inl ⟨j, b1, h3.trans b2, b3, h2.trans b4, by rw [h5 i (Nat.le_refl _), h5 j (by omega)]; exact b5⟩)
  · exact Or.inr (Or.inr ⟨j, k, b1, b2, b3, h2.trans b4, h3.trans b5, by rw [h5 i (Nat.le_refl _), h5 j (by omega), h5 k (by omega)]; exact b6⟩)
/-- the binding of variable x by node p at term t: the last write (fuel first) -/
def bm_D (kd pl pf ps t0 t1 fi : Nat → Int32) (x : Nat) : Nat → Nat → Nat → Int32
  | 0, _, _ => -1
  | f + 1, p, t =>
    if kd p = 1 then bm_mg (if pl p = nI x then nI t else -1) (bm_D kd pl pf ps t0 t1 fi x f (pf p).toNatClampNeg t)
    else if kd p = 2 then bm_mg (if ps p = -1 then -1 else bm_D kd pl pf ps t0 t1 fi x f (ps p).toNatClampNeg (t1 t).toNatClampNeg) (if pf p = -1 then -1 else bm_D kd pl pf ps t0 t1 fi x f (pf p).toNatClampNeg (t0 t).toNatClampNeg)
    else if kd p = 3 then (if fi ((pf p).toNatClampNeg * 64 + t) = 1 then bm_D kd pl pf ps t0 t1 fi x f (pf p).toNatClampNeg t else bm_D kd pl pf ps t0 t1 fi x f (ps p).toNatClampNeg t)
    else -1
theorem bm_D_u {kd pl pf ps t0 t1 fi : Nat → Int32} {x f p t : Nat} : bm_D kd pl pf ps t0 t1 fi x (f + 1) p t =
    if kd p = 1 then bm_mg (if pl p = nI x then nI t else -1) (bm_D kd pl pf ps t0 t1 fi x f (pf p).toNatClampNeg t)
    else if kd p = 2 then bm_mg (if ps p = -1 then -1 else bm_D kd pl pf ps t0 t1 fi x f (ps p).toNatClampNeg (t1 t).toNatClampNeg) (if pf p = -1 then -1 else bm_D kd pl pf ps t0 t1 fi x f (pf p).toNatClampNeg (t0 t).toNatClampNeg)
    else if kd p = 3 then (if fi ((pf p).toNatClampNeg * 64 + t) = 1 then bm_D kd pl pf ps t0 t1 fi x f (pf p).toNatClampNeg t else bm_D kd pl pf ps t0 t1 fi x f (ps p).toNatClampNeg t)
    else -1 := rfl
theorem bm_k10 : ¬ (0 : Int32) = 1 := by decide
theorem bm_k20 : ¬ (0 : Int32) = 2 := by decide
theorem bm_k30 : ¬ (0 : Int32) = 3 := by decide
theorem bm_k12 : ¬ (2 : Int32) = 1 := by decide
theorem bm_k13 : ¬ (3 : Int32) = 1 := by decide
theorem bm_k23 : ¬ (3 : Int32) = 2 := by decide
section
variable {ar kd pl pf ps pA pB pC us tc t0 t1 hX fi : Nat → Int32} {H sz : Nat → Nat} {cN pN tN : Nat}
theorem bm_D_0 {x f p t : Nat} (ek : kd p = 0) : bm_D kd pl pf ps t0 t1 fi x f p t = -1 := by
  cases f with
  | zero => rfl
  | succ f => rw [bm_D_u, ek, if_neg bm_k10, if_neg bm_k20, if_neg bm_k30]
theorem bm_D_1 {x f p t q : Nat} (ek : kd p = 1) (e1 : pf p = nI q) (hq : q < 2 ^ 31) : bm_D kd pl pf ps t0 t1 fi x (f + 1) p t = bm_mg (if pl p = nI x then nI t else -1) (bm_D kd pl pf ps t0 t1 fi x f q t) := by
  rw [bm_D_u, if_pos ek, e1, nI_clamp hq]
theorem bm_D_20 {x f p t : Nat} (ek : kd p = 2) (e1 : pf p = -1) (e2 : ps p = -1) : bm_D kd pl pf ps t0 t1 fi x f p t = -1 := by
  cases f with
  | zero => rfl
  | succ f => rw [bm_D_u, ek, if_neg bm_k12, if_pos rfl, if_pos e2, if_pos e1, bm_mg_l]
theorem bm_D_21 {x f p t q j : Nat} (ek : kd p = 2) (e1 : pf p = nI q) (hq : q < 2 ^ 31) (e2 : ps p = -1) (et : t0 t = nI j) (hj : j < 2 ^ 31) : bm_D kd pl pf ps t0 t1 fi x (f + 1) p t = bm_D kd pl pf ps t0 t1 fi x f q j := by
  rw [bm_D_u, ek, if_neg bm_k12, if_pos rfl, if_pos e2, e1, if_neg (bm_ne1 hq), et, nI_clamp hq, nI_clamp hj, bm_mg_l]
theorem bm_D_22 {x f p t q r j k : Nat} (ek : kd p = 2) (e1 : pf p = nI q) (hq : q < 2 ^ 31) (e2 : ps p = nI r) (hr : r < 2 ^ 31) (et : t0 t = nI j) (hj : j < 2 ^ 31) (eu : t1 t = nI k) (hk : k < 2 ^ 31) :
    bm_D kd pl pf ps t0 t1 fi x (f + 1) p t = bm_mg (bm_D kd pl pf ps t0 t1 fi x f r k) (bm_D kd pl pf ps t0 t1 fi x f q j) := by
  rw [bm_D_u, ek, if_neg bm_k12, if_pos rfl, e2, if_neg (bm_ne1 hr), e1, if_neg (bm_ne1 hq), et, eu, nI_clamp hq, nI_clamp hj, nI_clamp hr, nI_clamp hk]
theorem bm_D_3 {x f p t q r : Nat} (ek : kd p = 3) (e1 : pf p = nI q) (hq : q < 2 ^ 31) (e2 : ps p = nI r) (hr : r < 2 ^ 31) :
    bm_D kd pl pf ps t0 t1 fi x (f + 1) p t = if fi (q * 64 + t) = 1 then bm_D kd pl pf ps t0 t1 fi x f q t else bm_D kd pl pf ps t0 t1 fi x f r t := by
  rw [bm_D_u, ek, if_neg bm_k13, if_neg bm_k23, if_pos rfl, e1, e2, nI_clamp hq, nI_clamp hr]
theorem bm_D_st {x : Nat} (hN : ∀ p, p < pN → bm_Nd ar kd pl pf ps pA pB pC cN p) (hP : pN ≤ 64) : ∀ f g p t, p < pN → p < f → p < g → bm_D kd pl pf ps t0 t1 fi x f p t = bm_D kd pl pf ps t0 t1 fi x g p t := by
  intro f
  induction f with
  | zero => intro g p t _ h; omega
  | succ f ih =>
    intro g p t hp hf hg
    obtain ⟨g, rfl⟩ : ∃ g', g = g' + 1 := ⟨g - 1, by omega⟩
    rcases hN p hp with ⟨ek, e1, e2⟩ | ⟨y, q, ek, _, hq, _, e1, e2, _⟩ | ⟨c, ek, _, _, _, e1, e2, _⟩ | ⟨c, q, ek, _, _, hq, _, e1, e2, _⟩ | ⟨c, q, r, ek, _, _, hq, hr, _, _, e1, e2, _⟩ | ⟨q, r, ek, hq, hr, _, e1, e2, _⟩
    · rw [bm_D_0 ek, bm_D_0 ek]
    · rw [bm_D_1 ek e1 (by omega), bm_D_1 ek e1 (by omega), ih g q t (by omega) (by omega) (by omega)]
    · rw [bm_D_20 ek e1 e2, bm_D_20 ek e1 e2]
    · rw [bm_D_u, bm_D_u, ek, if_neg bm_k12, if_pos rfl, if_neg bm_k12, if_pos rfl, if_pos e2, if_pos e2, e1, nI_clamp (by omega), ih g q _ (by omega) (by omega) (by omega)]
    · rw [bm_D_u, bm_D_u, ek, if_neg bm_k12, if_pos rfl, if_neg bm_k12, if_pos rfl, e1, e2, nI_clamp (by omega), nI_clamp (by omega), ih g q _ (by omega) (by omega) (by omega), ih g r _ (by omega) (by omega) (by omega)]
    · rw [bm_D_3 ek e1 (by omega) e2 (by omega), bm_D_3 ek e1 (by omega) e2 (by omega), ih g q t (by omega) (by omega) (by omega), ih g r t (by omega) (by omega) (by omega)]
/-- all that a walk needs to know at a node p that fits a term t -/
def bm_St (kd pl pf ps pA pB pC t0 t1 fi ar tc : Nat → Int32) (sz : Nat → Nat) (cN p t : Nat) : Prop :=
  (kd p = 0 ∧ sz p = 1 ∧ ∀ x, bm_D kd pl pf ps t0 t1 fi x 64 p t = -1) ∨
  (∃ y q, kd p = 1 ∧ y < 8 ∧ q < p ∧ pl p = nI y ∧ pf p = nI q ∧ ps p = -1 ∧ pA p = nI y ∧ pB p = nI q ∧ sz p = 1 + sz q ∧ fi (q * 64 + t) = 1 ∧
    ∀ x, bm_D kd pl pf ps t0 t1 fi x 64 p t = bm_mg (if pl p = nI x then nI t else -1) (bm_D kd pl pf ps t0 t1 fi x 64 q t)) ∨
  (∃ c, kd p = 2 ∧ c < cN ∧ ar c = 0 ∧ pf p = -1 ∧ ps p = -1 ∧ pA p = nI c ∧ sz p = 1 ∧ ∀ x, bm_D kd pl pf ps t0 t1 fi x 64 p t = -1) ∨
  (∃ c q j, kd p = 2 ∧ c < cN ∧ ar c = 1 ∧ q < p ∧ j < t ∧ pl p = nI c ∧ tc t = nI c ∧ pf p = nI q ∧ ps p = -1 ∧ pA p = nI c ∧ pB p = nI q ∧ t0 t = nI j ∧ sz p = 1 + sz q ∧ fi (q * 64 + j) = 1 ∧
    ∀ x, bm_D kd pl pf ps t0 t1 fi x 64 p t = bm_D kd pl pf ps t0 t1 fi x 64 q j) ∨
  (∃ c q r j k, kd p = 2 ∧ c < cN ∧ ar c = 2 ∧ q < p ∧ r < p ∧ j < t ∧ k < t ∧ pl p = nI c ∧ tc t = nI c ∧ pf p = nI q ∧ ps p = nI r ∧ pA p = nI c ∧ pB p = nI q ∧ pC p = nI r ∧ t0 t = nI j ∧ t1 t = nI k ∧ sz p = 1 + sz q + sz r ∧ fi (q * 64 + j) = 1 ∧ fi (r * 64 + k) = 1 ∧
    ∀ x, bm_D kd pl pf ps t0 t1 fi x 64 p t = bm_mg (bm_D kd pl pf ps t0 t1 fi x 64 r k) (bm_D kd pl pf ps t0 t1 fi x 64 q j)) ∨
  (∃ q r, kd p = 3 ∧ q < p ∧ r < p ∧ pf p = nI q ∧ ps p = nI r ∧ pA p = nI q ∧ pB p = nI r ∧ sz p = 1 + sz q + sz r ∧
    ((fi (q * 64 + t) = 1 ∧ ∀ x, bm_D kd pl pf ps t0 t1 fi x 64 p t = bm_D kd pl pf ps t0 t1 fi x 64 q t) ∨
     (fi (q * 64 + t) = 0 ∧ fi (r * 64 + t) = 1 ∧ ∀ x, bm_D kd pl pf ps t0 t1 fi x 64 p t = bm_D kd pl pf ps t0 t1 fi x 64 r t)))
def bm_IF (kd pl pf ps tc t0 t1 fi : Nat → Int32) (pN tN : Nat) : Prop := (∀ i, fi i = 0 ∨ fi i = 1) ∧ ∀ p t, p < pN → t < tN → bm_Fe kd pl pf ps tc t0 t1 fi p t
def bm_IT (ar tc t0 t1 hX : Nat → Int32) (H : Nat → Nat) (cN tN : Nat) : Prop := tN ≤ 64 ∧ ∀ i, i < tN → bm_Tm ar tc t0 t1 hX H cN i
theorem bm_ar {c d : Nat} (hc : c < cN) (hd : d < cN) (hcN : cN ≤ 8) (e : nI c = nI d) : c = d := bm_im e (by omega) (by omega)
theorem bm_step (hcN : cN ≤ 8) (hP : bm_IP ar kd pl pf ps pA pB pC us sz cN pN) (hT : bm_IT ar tc t0 t1 hX H cN tN) (hF : bm_IF kd pl pf ps tc t0 t1 fi pN tN) {p t : Nat} (hp : p < pN) (ht : t < tN) (h1 : fi (p * 64 + t) = 1) :
    bm_St kd pl pf ps pA pB pC t0 t1 fi ar tc sz cN p t := by
  obtain ⟨hP6, hNd, hSz, _, _, _, _⟩ := hP
  obtain ⟨hT6, hTm⟩ := hT
  obtain ⟨h01, hFe⟩ := hF
  have st : ∀ x q u, q < p → bm_D kd pl pf ps t0 t1 fi x 63 q u = bm_D kd pl pf ps t0 t1 fi x 64 q u := fun x q u hq => bm_D_st hNd hP6 63 64 q u (by omega) (by omega) (by omega)
  have s := hSz p hp
  unfold bm_Sz at s
  obtain ⟨_, f1, f2, f3⟩ := hFe p t hp ht
  rcases hNd p hp with ⟨ek, e1, e2⟩ | ⟨y, q, ek, hy, hq, el, e1, e2, eA, eB⟩ | ⟨c, ek, hc, ea, el, e1, e2, eA⟩ | ⟨c, q, ek, hc, ea, hq, el, e1, e2, eA, eB⟩ | ⟨c, q, r, ek, hc, ea, hq, hr, _, el, e1, e2, eA, eB, eC⟩ | ⟨q, r, ek, hq, hr, _, e1, e2, eA, eB⟩
  · rw [e1, e2, bm_szc_n] at s
    exact Or.inl ⟨ek, s, fun x => bm_D_0 ek⟩
  · rw [e1, e2, bm_szc_n, bm_szc_s (by omega)] at s
    have f := f1 ek
    rw [e1, nI_clamp (by omega), h1] at f
    refine Or.inr (Or.inl ⟨y, q, ek, hy, hq, el, e1, e2, eA, eB, s, f.symm, fun x => ?_⟩)
    rw [bm_D_1 ek e1 (by omega), st x q t hq]
  · rw [e1, e2, bm_szc_n] at s
    exact Or.inr (Or.inr (Or.inl ⟨c, ek, hc, ea, e1, e2, eA, s, fun x => bm_D_20 ek e1 e2⟩))
  · rw [e1, e2, bm_szc_n, bm_szc_s (by omega)] at s
    obtain ⟨g1, g2, _⟩ := (f2 ek).mp h1
    obtain ⟨d, hd, td, _, _, _, hk⟩ := hTm t ht
    rw [el, td] at g1
    have := bm_ar hc hd hcN g1
    subst this
    obtain ⟨j, hj, ej⟩ : ∃ j, j < t ∧ t0 t = nI j := by
      rcases hk with ⟨z, _⟩ | ⟨j, _, _, hj, ej, _⟩ | ⟨j, k, z, _⟩
      · rw [ea] at z; exact absurd z (by decide)
      · exact ⟨j, hj, ej⟩
      · rw [ea] at z; exact absurd z (by decide)
    have g2' := g2.resolve_left (by rw [e1]; exact bm_ne1 (by omega))
    rw [e1, ej, nI_clamp (by omega), nI_clamp (by omega)] at g2'
    refine Or.inr (Or.inr (Or.inr (Or.inl ⟨c, q, j, ek, hc, ea, hq, hj, el, td, e1, e2, eA, eB, ej, s, g2', fun x => ?_⟩)))
    rw [bm_D_21 ek e1 (by omega) e2 ej (by omega), st x q j hq]
  · rw [e1, e2, bm_szc_s (by omega), bm_szc_s (by omega)] at s
    obtain ⟨g1, g2, g3⟩ := (f2 ek).mp h1
    obtain ⟨d, hd, td, _, _, _, hk⟩ := hTm t ht
    rw [el, td] at g1
    have := bm_ar hc hd hcN g1
    subst this
    obtain ⟨j, k, hj, hk', ej, ek'⟩ : ∃ j k, j < t ∧ k < t ∧ t0 t = nI j ∧ t1 t = nI k := by
      rcases hk with ⟨z, _⟩ | ⟨j, z, _⟩ | ⟨j, k, _, hj, hk, ej, ek, _⟩
      · rw [ea] at z; exact absurd z (by decide)
      · rw [ea] at z; exact absurd z (by decide)
      · exact ⟨j, k, hj, hk, ej, ek⟩
    have g2' := g2.resolve_left (by rw [e1]; exact bm_ne1 (by omega))
    have g3' := g3.resolve_left (by rw [e2]; exact bm_ne1 (by omega))
    rw [e1, ej, nI_clamp (by omega), nI_clamp (by omega)] at g2'
    rw [e2, ek', nI_clamp (by omega), nI_clamp (by omega)] at g3'
    refine Or.inr (Or.inr (Or.inr (Or.inr (Or.inl ⟨c, q, r, j, k, ek, hc, ea, hq, hr, hj, hk', el, td, e1, e2, eA, eB, eC, ej, ek', s, g2', g3', fun x => ?_⟩))))
    rw [bm_D_22 ek e1 (by omega) e2 (by omega) ej (by omega) ek' (by omega), st x q j hq, st x r k hr]
  · rw [e1, e2, bm_szc_s (by omega), bm_szc_s (by omega)] at s
    have g := (f3 ek).mp h1
    rw [e1, e2, nI_clamp (by omega), nI_clamp (by omega)] at g
    refine Or.inr (Or.inr (Or.inr (Or.inr (Or.inr ⟨q, r, ek, hq, hr, e1, e2, eA, eB, s, ?_⟩))))
    by_cases z : fi (q * 64 + t) = 1
    · refine Or.inl ⟨z, fun x => ?_⟩
      rw [bm_D_3 ek e1 (by omega) e2 (by omega), if_pos z, st x q t hq]
    · refine Or.inr ⟨(h01 _).resolve_right z, g.resolve_left z, fun x => ?_⟩
      rw [bm_D_3 ek e1 (by omega) e2 (by omega), if_neg z, st x r t hr]
/-- a binding is none, or a term -/
theorem bm_D_r (hcN : cN ≤ 8) (hP : bm_IP ar kd pl pf ps pA pB pC us sz cN pN) (hT : bm_IT ar tc t0 t1 hX H cN tN) (hF : bm_IF kd pl pf ps tc t0 t1 fi pN tN) {x : Nat} : ∀ n p t, p < n → p < pN → t < tN → fi (p * 64 + t) = 1 →
    bm_D kd pl pf ps t0 t1 fi x 64 p t = -1 ∨ ∃ u, u < tN ∧ bm_D kd pl pf ps t0 t1 fi x 64 p t = nI u := by
  intro n
  induction n with
  | zero => intro p t h; omega
  | succ n ih =>
    intro p t hn hp ht h1
    rcases bm_step hcN hP hT hF hp ht h1 with ⟨_, _, hD⟩ | ⟨y, q, _, _, hq, _, _, _, _, _, _, hf, hD⟩ | ⟨c, _, _, _, _, _, _, _, hD⟩ | ⟨c, q, j, _, _, _, hq, hj, _, _, _, _, _, _, _, _, hf, hD⟩ | ⟨c, q, r, j, k, _, _, _, hq, hr, hj, hk, _, _, _, _, _, _, _, _, _, _, hf, hg, hD⟩ | ⟨q, r, _, hq, hr, _, _, _, _, _, ⟨hf, hD⟩ | ⟨_, hf, hD⟩⟩
    · exact Or.inl (hD x)
    · rw [hD x]
      by_cases z : pl p = nI x
      · rw [if_pos z, bm_mg_n _ (bm_ne1 (by have := hT.1; omega))]
        exact Or.inr ⟨t, ht, rfl⟩
      · rw [if_neg z, bm_mg_l]
        exact ih q t (by omega) (by omega) ht hf
    · exact Or.inl (hD x)
    · rw [hD x]
      exact ih q j (by omega) (by omega) (by omega) hf
    · rw [hD x]
      rcases ih r k (by omega) (by omega) (by omega) hg with z | ⟨u, hu, z⟩
      · rw [z, bm_mg_l]
        exact ih q j (by omega) (by omega) (by omega) hf
      · rw [z, bm_mg_n _ (bm_ne1 (by have := hT.1; omega))]
        exact Or.inr ⟨u, hu, rfl⟩
    · rw [hD x]
      exact ih q t (by omega) (by omega) ht hf
    · rw [hD x]
      exact ih r t (by omega) (by omega) ht hf
end
end
section
/-! the walks of a match, purely: the places of the reference, and the two stacks -/
/-- the places of node q's children, where q is at term u -/
def bm_Cd (kd pl pf ps tc t0 t1 pa : Nat → Int32) (q u : Nat) : Prop :=
  (kd q = 1 → pa (pf q).toNatClampNeg = nI u) ∧ (kd q = 3 → pa (pf q).toNatClampNeg = nI u ∧ pa (ps q).toNatClampNeg = nI u) ∧
  (kd q = 2 → pl q = tc u → (pf q = -1 ∨ pa (pf q).toNatClampNeg = t0 u) ∧ (ps q = -1 ∨ pa (ps q).toNatClampNeg = t1 u))
def bm_I1 (kd pl pf ps tc t0 t1 pa : Nat → Int32) (tN root i : Nat) : Prop := ∀ q, i ≤ q → q ≤ root → ∀ u, u < tN → pa q = nI u → bm_Cd kd pl pf ps tc t0 t1 pa q u
def bm_V (pa : Nat → Int32) (tN : Nat) : Prop := ∀ i, i < 64 → pa i = -1 ∨ ∃ u, u < tN ∧ pa i = nI u
def bm_I2 (pa ok fi : Nat → Int32) (tN i : Nat) : Prop := (∀ j, j < 64 → ok j = 0 ∨ ok j = 1) ∧ ∀ q, q < i → ∀ u, u < tN → pa q = nI u → ok q = fi (q * 64 + u)
def bm_MP (kd pl pf ps tc t0 t1 fi pa ok : Nat → Int32) (tN root t : Nat) : Prop := pa root = nI t ∧ bm_I1 kd pl pf ps tc t0 t1 pa tN root 0 ∧ bm_I2 pa ok fi tN (root + 1)
section
variable {ar kd pl pf ps pA pB pC us tc t0 t1 hX fi pa pa' ok : Nat → Int32} {H sz : Nat → Nat} {cN pN tN root : Nat}
theorem bm_I1_step (hP : bm_IP ar kd pl pf ps pA pB pC us sz cN pN) {q : Nat} (hr : root < pN) (hq : q ≤ root) (h : bm_I1 kd pl pf ps tc t0 t1 pa tN root (q + 1))
    (hag : ∀ i, i < 64 → ¬ bm_Ch pf ps q i → pa' i = pa i) (hn : ∀ u, u < tN → pa q = nI u → bm_Cd kd pl pf ps tc t0 t1 pa' q u) : bm_I1 kd pl pf ps tc t0 t1 pa' tN root q := by
  obtain ⟨hP6, hNd, _, hUq, _, _, _⟩ := hP
  intro q' hq' hr' u hu e
  have nc : ¬ bm_Ch pf ps q q' := fun z => by
    have := bm_Nd_lt (hNd q (by omega)) (by omega) (by omega) z
    omega
  rw [hag q' (by omega) nc] at e
  by_cases e2 : q' = q
  · rw [e2] at e ⊢
    exact hn u hu e
  · obtain ⟨c1, c3, c2⟩ := h q' (by omega) hr' u hu e
    have K : ∀ i, i < 64 → bm_Ch pf ps q' i → pa' i = pa i := fun i hi hc => hag i hi (fun z => e2 (hUq q' q i (by omega) (by omega) hi hc z))
    rcases hNd q' (by omega) with ⟨ek, e1, e2⟩ | ⟨y, a, ek, _, ha, _, e1, e2, _⟩ | ⟨c, ek, _, _, _, e1, e2, _⟩ | ⟨c, a, ek, _, _, ha, _, e1, e2, _⟩ | ⟨c, a, b, ek, _, _, ha, hb, _, _, e1, e2, _⟩ | ⟨a, b, ek, ha, hb, _, e1, e2, _⟩
    · refine ⟨fun z => ?_, fun z => ?_, fun z => ?_⟩ <;> (rw [ek] at z; exact absurd z (by decide))
    · refine ⟨fun _ => ?_, fun z => ?_, fun z => ?_⟩
      · have c := c1 ek
        rw [e1, nI_clamp (by omega)] at c ⊢
        rw [K a (by omega) (Or.inl e1)]
        exact c
      · rw [ek] at z; exact absurd z (by decide)
      · rw [ek] at z; exact absurd z (by decide)
    · refine ⟨fun z => ?_, fun z => ?_, fun _ _ => ⟨Or.inl e1, Or.inl e2⟩⟩ <;> (rw [ek] at z; exact absurd z (by decide))
    · refine ⟨fun z => ?_, fun z => ?_, fun _ z => ⟨Or.inr ?_, Or.inl e2⟩⟩
      · rw [ek] at z; exact absurd z (by decide)
      · rw [ek] at z; exact absurd z (by decide)
      · have c := (c2 ek z).1.resolve_left (by rw [e1]; exact bm_ne1 (by omega))
        rw [e1, nI_clamp (by omega)] at c ⊢
        rw [K a (by omega) (Or.inl e1)]
        exact c
    · refine ⟨fun z => ?_, fun z => ?_, fun _ z => ⟨Or.inr ?_, Or.inr ?_⟩⟩
      · rw [ek] at z; exact absurd z (by decide)
      · rw [ek] at z; exact absurd z (by decide)
      · have c := (c2 ek z).1.resolve_left (by rw [e1]; exact bm_ne1 (by omega))
        rw [e1, nI_clamp (by omega)] at c ⊢
        rw [K a (by omega) (Or.inl e1)]
        exact c
      · have c := (c2 ek z).2.resolve_left (by rw [e2]; exact bm_ne1 (by omega))
        rw [e2, nI_clamp (by omega)] at c ⊢
        rw [K b (by omega) (Or.inr e2)]
        exact c
    · refine ⟨fun z => ?_, fun _ => ?_, fun z => ?_⟩
      · rw [ek] at z; exact absurd z (by decide)
      · have c := c3 ek
        rw [e1, e2, nI_clamp (by omega), nI_clamp (by omega)] at c ⊢
        rw [K a (by omega) (Or.inl e1), K b (by omega) (Or.inr e2)]
        exact c
      · rw [ek] at z; exact absurd z (by decide)
theorem bm_V_u {i : Nat} {v : Int32} (h : bm_V pa tN) (hv : v = -1 ∨ ∃ u, u < tN ∧ v = nI u) : bm_V (upd pa i v) tN := by
  intro j hj
  by_cases e : j = i
  · rw [e, pk_us]
    exact hv
  · rw [pk_un e]
    exact h j hj
/-- nothing is written at q -/
theorem bm_I1_same (hP : bm_IP ar kd pl pf ps pA pB pC us sz cN pN) {q : Nat} (hr : root < pN) (hq : q ≤ root) (h : bm_I1 kd pl pf ps tc t0 t1 pa tN root (q + 1))
    (hn : ∀ u, u < tN → pa q = nI u → bm_Cd kd pl pf ps tc t0 t1 pa q u) : bm_I1 kd pl pf ps tc t0 t1 pa tN root q :=
  bm_I1_step hP hr hq h (fun _ _ _ => rfl) hn
theorem bm_Cd_0 {q u : Nat} (ek : kd q = 0) : bm_Cd kd pl pf ps tc t0 t1 pa q u := by
  refine ⟨fun z => ?_, fun z => ?_, fun z => ?_⟩ <;> (rw [ek] at z; exact absurd z (by decide))
theorem bm_Cd_1 {q u a : Nat} (ek : kd q = 1) (e1 : pf q = nI a) (ha : a < 2 ^ 31) (h : pa a = nI u) : bm_Cd kd pl pf ps tc t0 t1 pa q u := by
  refine ⟨fun _ => ?_, fun z => ?_, fun z => ?_⟩
  · rw [e1, nI_clamp ha]
    exact h
  · rw [ek] at z; exact absurd z (by decide)
  · rw [ek] at z; exact absurd z (by decide)
theorem bm_Cd_3 {q u a b : Nat} (ek : kd q = 3) (e1 : pf q = nI a) (ha : a < 2 ^ 31) (e2 : ps q = nI b) (hb : b < 2 ^ 31) (h : pa a = nI u) (h' : pa b = nI u) : bm_Cd kd pl pf ps tc t0 t1 pa q u := by
  refine ⟨fun z => ?_, fun _ => ?_, fun z => ?_⟩
  · rw [ek] at z; exact absurd z (by decide)
  · rw [e1, e2, nI_clamp ha, nI_clamp hb]
    exact ⟨h, h'⟩
  · rw [ek] at z; exact absurd z (by decide)
theorem bm_Cd_2 {q u : Nat} (ek : kd q = 2) (h : pl q = tc u → (pf q = -1 ∨ pa (pf q).toNatClampNeg = t0 u) ∧ (ps q = -1 ∨ pa (ps q).toNatClampNeg = t1 u)) : bm_Cd kd pl pf ps tc t0 t1 pa q u := by
  refine ⟨fun z => ?_, fun z => ?_, fun _ => h⟩
  · rw [ek] at z; exact absurd z (by decide)
  · rw [ek] at z; exact absurd z (by decide)
theorem bm_u1 {q u u' : Nat} (hT : tN ≤ 64) (h : u < tN) (h' : u' < tN) (e : pa q = nI u) (e' : pa q = nI u') : u' = u := bm_im (e'.symm.trans e) (by omega) (by omega)
theorem bm_I1_as (hP : bm_IP ar kd pl pf ps pA pB pC us sz cN pN) {q u a : Nat} (hT : tN ≤ 64) (hr : root < pN) (hq : q ≤ root) (h : bm_I1 kd pl pf ps tc t0 t1 pa tN root (q + 1))
    (hu : u < tN) (e : pa q = nI u) (ek : kd q = 1) (e1 : pf q = nI a) (ha : a < q) : bm_I1 kd pl pf ps tc t0 t1 (upd pa a (nI u)) tN root q := by
  have h6 := hP.1
  refine bm_I1_step hP hr hq h (fun i _ hc => pk_un (fun z => hc (Or.inl (by rw [z]; exact e1)))) (fun u' hu' e' => ?_)
  have := bm_u1 hT hu hu' e e'
  subst this
  exact bm_Cd_1 ek e1 (by omega) pk_us
theorem bm_I1_or (hP : bm_IP ar kd pl pf ps pA pB pC us sz cN pN) {q u a b : Nat} (hT : tN ≤ 64) (hr : root < pN) (hq : q ≤ root) (h : bm_I1 kd pl pf ps tc t0 t1 pa tN root (q + 1))
    (hu : u < tN) (e : pa q = nI u) (ek : kd q = 3) (e1 : pf q = nI a) (ha : a < q) (e2 : ps q = nI b) (hb : b < q) : bm_I1 kd pl pf ps tc t0 t1 (upd (upd pa a (nI u)) b (nI u)) tN root q := by
  have h6 := hP.1
  refine bm_I1_step hP hr hq h (fun i _ hc => ?_) (fun u' hu' e' => ?_)
  · rw [pk_un (fun z => hc (Or.inr (by rw [z]; exact e2))), pk_un (fun z => hc (Or.inl (by rw [z]; exact e1)))]
  · have := bm_u1 hT hu hu' e e'
    subst this
    refine bm_Cd_3 ek e1 (by omega) e2 (by omega) ?_ pk_us
    by_cases z : a = b
    · rw [z, pk_us]
    · rw [pk_un z, pk_us]
theorem bm_I1_c1 (hP : bm_IP ar kd pl pf ps pA pB pC us sz cN pN) {q u a : Nat} (hT : tN ≤ 64) (hr : root < pN) (hq : q ≤ root) (h : bm_I1 kd pl pf ps tc t0 t1 pa tN root (q + 1))
    (hu : u < tN) (e : pa q = nI u) (ek : kd q = 2) (e1 : pf q = nI a) (ha : a < q) (e2 : ps q = -1) : bm_I1 kd pl pf ps tc t0 t1 (upd pa a (t0 u)) tN root q := by
  have h6 := hP.1
  refine bm_I1_step hP hr hq h (fun i _ hc => pk_un (fun z => hc (Or.inl (by rw [z]; exact e1)))) (fun u' hu' e' => ?_)
  have := bm_u1 hT hu hu' e e'
  subst this
  refine bm_Cd_2 ek (fun _ => ⟨Or.inr ?_, Or.inl e2⟩)
  rw [e1, nI_clamp (by omega), pk_us]
theorem bm_I1_c2 (hP : bm_IP ar kd pl pf ps pA pB pC us sz cN pN) {q u a b : Nat} (hT : tN ≤ 64) (hr : root < pN) (hq : q ≤ root) (h : bm_I1 kd pl pf ps tc t0 t1 pa tN root (q + 1))
    (hu : u < tN) (e : pa q = nI u) (ek : kd q = 2) (e1 : pf q = nI a) (ha : a < q) (e2 : ps q = nI b) (hb : b < q) (hab : a ≠ b) : bm_I1 kd pl pf ps tc t0 t1 (upd (upd pa a (t0 u)) b (t1 u)) tN root q := by
  have h6 := hP.1
  refine bm_I1_step hP hr hq h (fun i _ hc => ?_) (fun u' hu' e' => ?_)
  · rw [pk_un (fun z => hc (Or.inr (by rw [z]; exact e2))), pk_un (fun z => hc (Or.inl (by rw [z]; exact e1)))]
  · have := bm_u1 hT hu hu' e e'
    subst this
    refine bm_Cd_2 ek (fun _ => ⟨Or.inr ?_, Or.inr ?_⟩)
    · rw [e1, nI_clamp (by omega), pk_un hab, pk_us]
    · rw [e2, nI_clamp (by omega), pk_us]
theorem bm_I2_n {q : Nat} (h : bm_I2 pa ok fi tN q) (hT : tN ≤ 64) (e : pa q = -1) : bm_I2 pa ok fi tN (q + 1) := by
  refine ⟨h.1, fun q' hq' u hu e' => ?_⟩
  by_cases z : q' = q
  · rw [z, e] at e'
    exact absurd e' (bm_ne1' (by omega))
  · exact h.2 q' (by omega) u hu e'
theorem bm_I2_s {q u : Nat} {v : Int32} (h : bm_I2 pa ok fi tN q) (hT : tN ≤ 64) (hu : u < tN) (e : pa q = nI u) (hv : v = fi (q * 64 + u)) (h01 : ∀ i, fi i = 0 ∨ fi i = 1) : bm_I2 pa (upd ok q v) fi tN (q + 1) := by
  refine ⟨fun j hj => ?_, fun q' hq' u' hu' e' => ?_⟩
  · by_cases z : j = q
    · rw [z, pk_us, hv]
      exact h01 _
    · rw [pk_un z]
      exact h.1 j hj
  · by_cases z : q' = q
    · subst z
      have := bm_u1 hT hu hu' e e'
      subst this
      rw [pk_us]
      exact hv
    · rw [pk_un z]
      exact h.2 q' (by omega) u' hu' e'
end
/-- the component's stack: a list of nodes with their terms -/
def bm_SX (pp pt : Nat → Int32) : List (Nat × Nat) → Nat → Prop
  | [], k => k = 0
  | e :: l, k => ∃ j, k = j + 1 ∧ pp j = nI e.1 ∧ pt j = nI e.2 ∧ bm_SX pp pt l j
theorem bm_SX_c {pp pt pp' pt' : Nat → Int32} : ∀ (l : List (Nat × Nat)) (k : Nat), bm_SX pp pt l k → (∀ i, i < k → pp' i = pp i) → (∀ i, i < k → pt' i = pt i) → bm_SX pp' pt' l k
  | [], _, h, _, _ => h
  | _ :: l, _, ⟨j, hj, e1, e2, h⟩, h1, h2 => ⟨j, hj, (h1 j (by omega)).trans e1, (h2 j (by omega)).trans e2, bm_SX_c l j h (fun i hi => h1 i (by omega)) (fun i hi => h2 i (by omega))⟩
theorem bm_SX_push {pp pt : Nat → Int32} {l : List (Nat × Nat)} {k q t : Nat} (h : bm_SX pp pt l k) : bm_SX (upd pp k (nI q)) (upd pt k (nI t)) ((q, t) :: l) (k + 1) :=
  ⟨k, rfl, pk_us, pk_us, bm_SX_c l k h (fun _ hi => pk_un (by omega)) (fun _ hi => pk_un (by omega))⟩
def bm_wX (sz : Nat → Nat) : List (Nat × Nat) → Nat
  | [] => 0
  | e :: l => sz e.1 + bm_wX sz l
def bm_RX (d : Nat → Nat → Nat → Int32) (x : Nat) : List (Nat × Nat) → Int32
  | [] => -1
  | e :: l => bm_mg (d x e.1 e.2) (bm_RX d x l)
def bm_OX (fi : Nat → Int32) (pN tN : Nat) : List (Nat × Nat) → Prop
  | [] => True
  | e :: l => (e.1 < pN ∧ e.2 < tN ∧ fi (e.1 * 64 + e.2) = 1) ∧ bm_OX fi pN tN l
theorem bm_kX {pp pt fi : Nat → Int32} {sz : Nat → Nat} {pN tN : Nat} (h1 : ∀ p, p < pN → 1 ≤ sz p) : ∀ (l : List (Nat × Nat)) (k : Nat), bm_SX pp pt l k → bm_OX fi pN tN l → k ≤ bm_wX sz l
  | [], k, h, _ => by
    have : k = 0 := h
    omega
  | e :: l, k, ⟨j, hj, _, _, h⟩, ⟨⟨hp, _, _⟩, o⟩ => by
    have := bm_kX h1 l j h o
    have := h1 e.1 hp
    show k ≤ sz e.1 + bm_wX sz l
    omega
/-- the reference's stack: nodes (0) and writes (1) -/
def bm_SY (st : Nat → Int32) : List (Nat × Nat × Nat) → Nat → Prop
  | [], k => k = 0
  | e :: l, k => ∃ j, k = j + 1 ∧ st j = nI (2 * e.2.1 + e.1) ∧ bm_SY st l j
theorem bm_SY_c {st st' : Nat → Int32} : ∀ (l : List (Nat × Nat × Nat)) (k : Nat), bm_SY st l k → (∀ i, i < k → st' i = st i) → bm_SY st' l k
  | [], _, h, _ => h
  | _ :: l, _, ⟨j, hj, e1, h⟩, h1 => ⟨j, hj, (h1 j (by omega)).trans e1, bm_SY_c l j h (fun i hi => h1 i (by omega))⟩
theorem bm_SY_push {st : Nat → Int32} {l : List (Nat × Nat × Nat)} {k : Nat} (w q t : Nat) (h : bm_SY st l k) : bm_SY (upd st k (nI (2 * q + w))) ((w, q, t) :: l) (k + 1) :=
  ⟨k, rfl, pk_us, bm_SY_c l k h (fun _ hi => pk_un (by omega))⟩
def bm_wY (sz : Nat → Nat) : List (Nat × Nat × Nat) → Nat
  | [] => 0
  | e :: l => (if e.1 = 0 then 2 * sz e.2.1 else 1) + bm_wY sz l
def bm_dY (d : Nat → Nat → Nat → Int32) (pA : Nat → Int32) (x : Nat) (e : Nat × Nat × Nat) : Int32 := if e.1 = 0 then d x e.2.1 e.2.2 else if pA e.2.1 = nI x then nI e.2.2 else -1
def bm_RY (d : Nat → Nat → Nat → Int32) (pA : Nat → Int32) (x : Nat) : List (Nat × Nat × Nat) → Int32
  | [] => -1
  | e :: l => bm_mg (bm_RY d pA x l) (bm_dY d pA x e)
def bm_OY (fi pA pa : Nat → Int32) (pN tN root : Nat) : List (Nat × Nat × Nat) → Prop
  | [] => True
  | e :: l => (e.2.1 ≤ root ∧ e.2.2 < tN ∧ pa e.2.1 = nI e.2.2 ∧ ((e.1 = 0 ∧ fi (e.2.1 * 64 + e.2.2) = 1) ∨ (e.1 = 1 ∧ ∃ y, y < 8 ∧ pA e.2.1 = nI y))) ∧ bm_OY fi pA pa pN tN root l
theorem bm_kY {st fi pA pa : Nat → Int32} {sz : Nat → Nat} {pN tN root : Nat} (hr : root < pN) (h1 : ∀ p, p < pN → 1 ≤ sz p) : ∀ (l : List (Nat × Nat × Nat)) (k : Nat), bm_SY st l k → bm_OY fi pA pa pN tN root l → k ≤ bm_wY sz l
  | [], k, h, _ => by
    have : k = 0 := h
    omega
  | e :: l, k, ⟨j, hj, _, h⟩, ⟨⟨hp, _, _, _⟩, o⟩ => by
    have := bm_kY hr h1 l j h o
    have := h1 e.2.1 (by omega)
    show k ≤ (if e.1 = 0 then 2 * sz e.2.1 else 1) + bm_wY sz l
    split <;> omega
/-- what the reference's second loop meets at node q, at term u -/
def bm_L2 (kd pA pB pC ar tc fi ok : Nat → Int32) (cN q u : Nat) : Prop :=
  (kd q = 0 ∧ fi (q * 64 + u) = 1) ∨
  (∃ a, kd q = 1 ∧ a < q ∧ pB q = nI a ∧ ok a = fi (q * 64 + u)) ∨
  (∃ c, kd q = 2 ∧ c < cN ∧ ar c = 0 ∧ pA q = nI c ∧ (tc u = nI c → fi (q * 64 + u) = 1) ∧ (¬ tc u = nI c → fi (q * 64 + u) = 0)) ∨
  (∃ c a, kd q = 2 ∧ c < cN ∧ ar c = 1 ∧ a < q ∧ pA q = nI c ∧ pB q = nI a ∧ (tc u = nI c → ok a = fi (q * 64 + u)) ∧ (¬ tc u = nI c → fi (q * 64 + u) = 0)) ∨
  (∃ c a b, kd q = 2 ∧ c < cN ∧ ar c = 2 ∧ a < q ∧ b < q ∧ pA q = nI c ∧ pB q = nI a ∧ pC q = nI b ∧ (tc u = nI c → ok a = 0 → fi (q * 64 + u) = 0) ∧ (tc u = nI c → ¬ ok a = 0 → ok b = fi (q * 64 + u)) ∧ (¬ tc u = nI c → fi (q * 64 + u) = 0)) ∨
  (∃ a b, kd q = 3 ∧ a < q ∧ b < q ∧ pA q = nI a ∧ pB q = nI b ∧ (¬ ok a = 0 → fi (q * 64 + u) = 1) ∧ (ok a = 0 → ok b = fi (q * 64 + u)))
theorem bm_01e {x y : Int32} (hx : x = 0 ∨ x = 1) (hy : y = 0 ∨ y = 1) (h : x = 1 ↔ y = 1) : x = y := by
  rcases hx with rfl | rfl
  · rcases hy with rfl | rfl
    · rfl
    · exact absurd (h.mpr rfl) bm_n01
  · exact (h.mp rfl).symm
section
variable {ar kd pl pf ps pA pB pC us tc t0 t1 hX fi pa pa' ok : Nat → Int32} {H sz : Nat → Nat} {cN pN tN root : Nat}
theorem bm_L2_of (hcN : cN ≤ 8) (hP : bm_IP ar kd pl pf ps pA pB pC us sz cN pN) (hT : bm_IT ar tc t0 t1 hX H cN tN) (hF : bm_IF kd pl pf ps tc t0 t1 fi pN tN)
    {q u : Nat} (hq : q < pN) (hu : u < tN) (hC : bm_Cd kd pl pf ps tc t0 t1 pa q u) (h2 : bm_I2 pa ok fi tN q) : bm_L2 kd pA pB pC ar tc fi ok cN q u := by
  obtain ⟨hP6, hNd, _, _, _, _, _⟩ := hP
  obtain ⟨hT6, hTm⟩ := hT
  obtain ⟨h01, hFe⟩ := hF
  obtain ⟨f0, f1, f2, f3⟩ := hFe q u hq hu
  obtain ⟨c1, c3, c2⟩ := hC
  obtain ⟨o01, o⟩ := h2
  rcases hNd q hq with ⟨ek, e1, e2⟩ | ⟨y, a, ek, hy, ha, el, e1, e2, eA, eB⟩ | ⟨c, ek, hc, ea, el, e1, e2, eA⟩ | ⟨c, a, ek, hc, ea, ha, el, e1, e2, eA, eB⟩ | ⟨c, a, b, ek, hc, ea, ha, hb, _, el, e1, e2, eA, eB, eC⟩ | ⟨a, b, ek, ha, hb, _, e1, e2, eA, eB⟩
  · exact Or.inl ⟨ek, f0 ek⟩
  · have g := c1 ek
    have f := f1 ek
    rw [e1, nI_clamp (by omega)] at g f
    exact Or.inr (Or.inl ⟨a, ek, ha, eB, (o a ha u hu g).trans f.symm⟩)
  · have f := f2 ek
    rw [el] at f
    refine Or.inr (Or.inr (Or.inl ⟨c, ek, hc, ea, eA, fun z => f.mpr ⟨z.symm, Or.inl e1, Or.inl e2⟩, fun z => (h01 _).resolve_right (fun w => z (f.mp w).1.symm)⟩))
  · have f := f2 ek
    have g := c2 ek
    rw [el] at f g
    refine Or.inr (Or.inr (Or.inr (Or.inl ⟨c, a, ek, hc, ea, ha, eA, eB, fun z => ?_, fun z => (h01 _).resolve_right (fun w => z (f.mp w).1.symm)⟩)))
    have g1 := (g z.symm).1.resolve_left (by rw [e1]; exact bm_ne1 (by omega))
    obtain ⟨d, hd, td, _, _, _, hk⟩ := hTm u hu
    have := bm_ar hc hd hcN (z.symm.trans td)
    subst this
    obtain ⟨j, hj, ej⟩ : ∃ j, j < u ∧ t0 u = nI j := by
      rcases hk with ⟨w, _⟩ | ⟨j, _, _, hj, ej, _⟩ | ⟨j, k, w, _⟩
      · rw [ea] at w; exact absurd w (by decide)
      · exact ⟨j, hj, ej⟩
      · rw [ea] at w; exact absurd w (by decide)
    rw [e1, ej, nI_clamp (by omega)] at g1
    rw [o a ha j (by omega) g1]
    refine bm_01e (h01 _) (h01 _) ?_
    rw [f, e1, ej, nI_clamp (by omega), nI_clamp (by omega)]
    exact ⟨fun w => ⟨z.symm, Or.inr w, Or.inl e2⟩, fun w => w.2.1.resolve_left (bm_ne1 (by omega))⟩
  · have f := f2 ek
    have g := c2 ek
    rw [el] at f g
    have all : tc u = nI c → ∃ j k, j < tN ∧ k < tN ∧ ok a = fi (a * 64 + j) ∧ ok b = fi (b * 64 + k) ∧ (fi (q * 64 + u) = 1 ↔ fi (a * 64 + j) = 1 ∧ fi (b * 64 + k) = 1) := by
      intro z
      have g1 := (g z.symm).1.resolve_left (by rw [e1]; exact bm_ne1 (by omega))
      have g2 := (g z.symm).2.resolve_left (by rw [e2]; exact bm_ne1 (by omega))
      obtain ⟨d, hd, td, _, _, _, hk⟩ := hTm u hu
      have := bm_ar hc hd hcN (z.symm.trans td)
      subst this
      obtain ⟨j, k, hj, hk', ej, ek'⟩ : ∃ j k, j < u ∧ k < u ∧ t0 u = nI j ∧ t1 u = nI k := by
        rcases hk with ⟨w, _⟩ | ⟨j, w, _⟩ | ⟨j, k, _, hj, hk, ej, ek, _⟩
        · rw [ea] at w; exact absurd w (by decide)
        · rw [ea] at w; exact absurd w (by decide)
        · exact ⟨j, k, hj, hk, ej, ek⟩
      rw [e1, ej, nI_clamp (by omega)] at g1
      rw [e2, ek', nI_clamp (by omega)] at g2
      refine ⟨j, k, by omega, by omega, o a ha j (by omega) g1, o b hb k (by omega) g2, ?_⟩
      rw [f, e1, e2, ej, ek', nI_clamp (by omega), nI_clamp (by omega), nI_clamp (by omega), nI_clamp (by omega)]
      exact ⟨fun w => ⟨w.2.1.resolve_left (bm_ne1 (by omega)), w.2.2.resolve_left (bm_ne1 (by omega))⟩, fun w => ⟨z.symm, Or.inr w.1, Or.inr w.2⟩⟩
    refine Or.inr (Or.inr (Or.inr (Or.inr (Or.inl ⟨c, a, b, ek, hc, ea, ha, hb, eA, eB, eC, fun z w => ?_, fun z w => ?_, fun z => (h01 _).resolve_right (fun w => z (f.mp w).1.symm)⟩))))
    · obtain ⟨j, k, _, _, p1, p2, p3⟩ := all z
      refine (h01 _).resolve_right (fun v => ?_)
      have := (p3.mp v).1
      rw [← p1, w] at this
      exact bm_n01 this
    · obtain ⟨j, k, _, _, p1, p2, p3⟩ := all z
      rw [p2]
      refine bm_01e (h01 _) (h01 _) ?_
      rw [p3]
      have : fi (a * 64 + j) = 1 := by
        rw [← p1]
        exact bm_01t (o01 a (by omega)) w
      exact ⟨fun v => ⟨this, v⟩, fun v => v.2⟩
  · have f := f3 ek
    have g := c3 ek
    rw [e1, e2, nI_clamp (by omega), nI_clamp (by omega)] at f g
    have p1 := o a ha u hu g.1
    have p2 := o b hb u hu g.2
    refine Or.inr (Or.inr (Or.inr (Or.inr (Or.inr ⟨a, b, ek, ha, hb, eA, eB, fun z => f.mpr (Or.inl ?_), fun z => ?_⟩))))
    · rw [← p1]
      exact bm_01t (o01 a (by omega)) z
    · rw [p2]
      refine bm_01e (h01 _) (h01 _) ?_
      rw [f]
      exact ⟨fun w => Or.inr w, fun w => w.resolve_left (fun v => by rw [← p1, z] at v; exact bm_n01 v)⟩
/-- a step of the component's stack -/
theorem bm_bind {rb : Nat → Int32} {y t x : Nat} {s r : Int32} (hy : y < 8) (hx : x < 8) (ht : t < 64) (hr : ¬ rb y = -1) (h : bm_mg (rb x) (bm_mg (if nI y = nI x then nI t else -1) s) = r) : bm_mg (rb x) s = r := by
  by_cases z : y = x
  · subst z
    rw [bm_mg_n _ hr] at h ⊢
    exact h
  · rw [if_neg (fun w => z (bm_im w (by omega) (by omega))), bm_mg_l] at h
    exact h
theorem bm_bind' {rb : Nat → Int32} {y t x : Nat} {s r : Int32} (hy : y < 8) (hx : x < 8) (ht : t < 64) (hr : rb y = -1) (h : bm_mg (rb x) (bm_mg (if nI y = nI x then nI t else -1) s) = r) : bm_mg (upd rb y (nI t) x) s = r := by
  by_cases z : y = x
  · subst z
    rw [hr, bm_mg_l, if_pos rfl] at h
    rw [pk_us]
    exact h
  · rw [if_neg (fun w => z (bm_im w (by omega) (by omega))), bm_mg_l] at h
    rw [pk_un (fun w => z w.symm)]
    exact h
theorem bm_bindY {rb : Nat → Int32} {y t x : Nat} {s r : Int32} (hy : y < 8) (hx : x < 8) (ht : t < 64) (h : bm_mg (bm_mg s (if nI y = nI x then nI t else -1)) (rb x) = r) : bm_mg s (upd rb y (nI t) x) = r := by
  rw [bm_mg_as] at h
  by_cases z : y = x
  · subst z
    rw [if_pos rfl, bm_mg_n _ (bm_ne1 (by omega))] at h
    rw [pk_us]
    exact h
  · rw [if_neg (fun w => z (bm_im w (by omega) (by omega))), bm_mg_l] at h
    rw [pk_un (fun w => z w.symm)]
    exact h
end
end
section
/-! a new term, a new pattern: the invariants grow -/
def bm_FG (kd pl pf ps tc t0 t1 fi : Nat → Int32) (P : Nat → Nat → Prop) : Prop := (∀ i, fi i = 0 ∨ fi i = 1) ∧ ∀ p t, P p t → bm_Fe kd pl pf ps tc t0 t1 fi p t
section
variable {ar kd pl pf ps pA pB pC us tc t0 t1 hX fi : Nat → Int32} {H sz : Nat → Nat} {cN pN tN : Nat}
theorem bm_FG_m {P Q : Nat → Nat → Prop} (h : bm_FG kd pl pf ps tc t0 t1 fi P) (hQ : ∀ p t, Q p t → P p t) : bm_FG kd pl pf ps tc t0 t1 fi Q := ⟨h.1, fun p t z => h.2 p t (hQ p t z)⟩
theorem bm_FG_step {P : Nat → Nat → Prop} {i j : Nat} {v : Int32} (hp6 : pN ≤ 64) (ht6 : tN ≤ 64) (hN : ∀ p, p < pN → bm_Nd ar kd pl pf ps pA pB pC cN p) (hT : ∀ t, t < tN → bm_Tm ar tc t0 t1 hX H cN t)
    (hP : ∀ p t, P p t → p < pN ∧ t < tN) (hi : i < pN) (hj : j < tN) (h : bm_FG kd pl pf ps tc t0 t1 fi P) (hv : bm_NF kd pl pf ps tc t0 t1 fi i j v) (h01 : v = 0 ∨ v = 1)
    (hne : ∀ p t, P p t → ∀ q u, q ≤ p → u ≤ t → ¬ (q = i ∧ u = j)) : bm_FG kd pl pf ps tc t0 t1 (upd fi (i * 64 + j) v) (fun p t => P p t ∨ (p = i ∧ t = j)) := by
  refine ⟨fun k => ?_, fun p t z => ?_⟩
  · by_cases e : k = i * 64 + j
    · rw [e, pk_us]
      exact h01
    · rw [pk_un e]
      exact h.1 k
  · rcases z with z | ⟨rfl, rfl⟩
    · obtain ⟨a, b⟩ := hP p t z
      exact bm_Fe_upd (hN p a) (hT t b) (by omega) (by omega) (by omega) (h.2 p t z) (hne p t z)
    · exact bm_Fe_new (hN p hi) (hT t hj) (by omega) (by omega) hv
theorem bm_IF_FG (h : bm_IF kd pl pf ps tc t0 t1 fi pN tN) : bm_FG kd pl pf ps tc t0 t1 fi (fun p t => p < pN ∧ t < tN) := ⟨h.1, fun p t z => h.2 p t z.1 z.2⟩
theorem bm_FG_IF (h : bm_FG kd pl pf ps tc t0 t1 fi (fun p t => p < pN ∧ t < tN)) : bm_IF kd pl pf ps tc t0 t1 fi pN tN := ⟨h.1, fun p t a b => h.2 p t ⟨a, b⟩⟩
/-- the table before the loop of a new term -/
theorem bm_FG_t {c f s : Int32} (h : bm_IF kd pl pf ps tc t0 t1 fi pN tN) : bm_FG kd pl pf ps (upd tc tN c) (upd t0 tN f) (upd t1 tN s) fi (fun p t => p < pN ∧ (t < tN ∨ (t = tN ∧ p < 0))) := by
  refine ⟨h.1, fun p t z => ?_⟩
  have ht : t < tN := by omega
  exact bm_Fe_c (h.2 p t z.1 ht) rfl rfl rfl rfl (pk_un (by omega)) (pk_un (by omega)) (pk_un (by omega))
theorem bm_FG_ts {i : Nat} {v : Int32} (hp6 : pN ≤ 64) (ht6 : tN < 64) (hN : ∀ p, p < pN → bm_Nd ar kd pl pf ps pA pB pC cN p) (hT : ∀ t, t < tN + 1 → bm_Tm ar tc t0 t1 hX H cN t) (hi : i < pN)
    (h : bm_FG kd pl pf ps tc t0 t1 fi (fun p t => p < pN ∧ (t < tN ∨ (t = tN ∧ p < i)))) (hv : bm_NF kd pl pf ps tc t0 t1 fi i tN v) (h01 : v = 0 ∨ v = 1) :
    bm_FG kd pl pf ps tc t0 t1 (upd fi (i * 64 + tN) v) (fun p t => p < pN ∧ (t < tN ∨ (t = tN ∧ p < i + 1))) :=
  bm_FG_m (bm_FG_step (pN := pN) (tN := tN + 1) hp6 (by omega) hN hT (fun p t z => by omega) hi (by omega) h hv h01 (fun p t z q u hq hu w => by omega)) (fun p t z => by omega)
theorem bm_FG_te (h : bm_FG kd pl pf ps tc t0 t1 fi (fun p t => p < pN ∧ (t < tN ∨ (t = tN ∧ p < pN)))) : bm_IF kd pl pf ps tc t0 t1 fi pN (tN + 1) :=
  bm_FG_IF (bm_FG_m h (fun p t z => by omega))
/-- the table before the loop of a new pattern -/
theorem bm_FG_p {k a f s : Int32} (h : bm_IF kd pl pf ps tc t0 t1 fi pN tN) : bm_FG (upd kd pN k) (upd pl pN a) (upd pf pN f) (upd ps pN s) tc t0 t1 fi (fun p t => t < tN ∧ (p < pN ∨ (p = pN ∧ t < 0))) := by
  refine ⟨h.1, fun p t z => ?_⟩
  have hp : p < pN := by omega
  exact bm_Fe_c (h.2 p t hp z.1) (pk_un (by omega)) (pk_un (by omega)) (pk_un (by omega)) (pk_un (by omega)) rfl rfl rfl
theorem bm_FG_ps {i : Nat} {v : Int32} (hp6 : pN < 64) (ht6 : tN ≤ 64) (hN : ∀ p, p < pN + 1 → bm_Nd ar kd pl pf ps pA pB pC cN p) (hT : ∀ t, t < tN → bm_Tm ar tc t0 t1 hX H cN t) (hi : i < tN)
    (h : bm_FG kd pl pf ps tc t0 t1 fi (fun p t => t < tN ∧ (p < pN ∨ (p = pN ∧ t < i)))) (hv : bm_NF kd pl pf ps tc t0 t1 fi pN i v) (h01 : v = 0 ∨ v = 1) :
    bm_FG kd pl pf ps tc t0 t1 (upd fi (pN * 64 + i) v) (fun p t => t < tN ∧ (p < pN ∨ (p = pN ∧ t < i + 1))) :=
  bm_FG_m (bm_FG_step (pN := pN + 1) (tN := tN) (by omega) ht6 hN hT (fun p t z => by omega) (by omega) hi h hv h01 (fun p t z q u hq hu w => by omega)) (fun p t z => by omega)
theorem bm_FG_pe (h : bm_FG kd pl pf ps tc t0 t1 fi (fun p t => t < tN ∧ (p < pN ∨ (p = pN ∧ t < tN)))) : bm_IF kd pl pf ps tc t0 t1 fi (pN + 1) tN :=
  bm_FG_IF (bm_FG_m h (fun p t z => by omega))
theorem bm_IT_new {c f s h : Int32} {n : Nat} (hT : bm_IT ar tc t0 t1 hX H cN tN) (ht6 : tN < 64) (hnew : bm_Tm ar (upd tc tN c) (upd t0 tN f) (upd t1 tN s) (upd hX tN h) (bm_un H tN n) cN tN) :
    bm_IT ar (upd tc tN c) (upd t0 tN f) (upd t1 tN s) (upd hX tN h) (bm_un H tN n) cN (tN + 1) := by
  refine ⟨by omega, fun i hi => ?_⟩
  by_cases e : i = tN
  · rw [e]
    exact hnew
  · exact bm_Tm_c (hT.2 i (by omega)) (pk_un e) (pk_un e) (pk_un e) (pk_un e) (fun j hj => bm_un_n (by omega))
/-- the rows -/
def bm_Rw (rp rg r1 r2 : Nat → Int32) (sz : Nat → Nat) (pN r : Nat) : Prop :=
  ∃ q, q < pN ∧ rp r = nI q ∧ sz q ≤ 64 ∧ (rg r = 0 ∨ (∃ x y, (rg r = 1 ∨ rg r = 2) ∧ x < 8 ∧ y < 8 ∧ r1 r = nI x ∧ r2 r = nI y) ∨ (∃ x, (rg r = 3 ∨ rg r = 4) ∧ x < 8 ∧ r1 r = nI x))
def bm_IR (rp rg r1 r2 : Nat → Int32) (sz : Nat → Nat) (pN rN : Nat) : Prop := rN ≤ 8 ∧ ∀ r, r < rN → bm_Rw rp rg r1 r2 sz pN r
theorem bm_IR_p {rp rg r1 r2 : Nat → Int32} {rN v : Nat} (h : bm_IR rp rg r1 r2 sz pN rN) : bm_IR rp rg r1 r2 (bm_un sz pN v) (pN + 1) rN := by
  refine ⟨h.1, fun r hr => ?_⟩
  obtain ⟨q, hq, e, hs, g⟩ := h.2 r hr
  exact ⟨q, by omega, e, by rw [bm_un_n (by omega)]; exact hs, g⟩
theorem bm_IR_new {rp rg r1 r2 : Nat → Int32} {rN : Nat} {p g a b : Int32} (h : bm_IR rp rg r1 r2 sz pN rN) (hr : rN < 8) (hnew : bm_Rw (upd rp rN p) (upd rg rN g) (upd r1 rN a) (upd r2 rN b) sz pN rN) : bm_IR (upd rp rN p) (upd rg rN g) (upd r1 rN a) (upd r2 rN b) sz pN (rN + 1) := by
  refine ⟨by omega, fun r hr' => ?_⟩
  by_cases e : r = rN
  · rw [e]
    exact hnew
  · have := h.2 r (by omega)
    unfold bm_Rw at this ⊢
    rw [pk_un e, pk_un e, pk_un e, pk_un e]
    exact this
theorem bm_IR_0 {rp rg r1 r2 : Nat → Int32} {pN : Nat} : bm_IR rp rg r1 r2 sz pN 0 := ⟨by omega, fun _ h => absurd h (Nat.not_lt_zero _)⟩
theorem bm_IF_0 (h : ∀ i, fi i = 0 ∨ fi i = 1) : bm_IF kd pl pf ps tc t0 t1 fi 0 tN := ⟨h, fun _ _ h => absurd h (Nat.not_lt_zero _)⟩
theorem bm_IT_0 : bm_IT ar tc t0 t1 hX H cN 0 := ⟨by omega, fun _ h => absurd h (Nat.not_lt_zero _)⟩
end
end
section
/-! the component's small methods, each with a general post -/
section
variable {fT fP fR fC fN fQ fW cm sr fG pk : Int32} {ar tc t0 t1 hX kd pl pf ps us fi rp rg r1 r2 sb gl rb pp pt : Nat → Int32} {H sz : Nat → Nat} {cN pN tN rN : Nat} {pA pB pC : Nat → Int32}
theorem xx_cons_t {post : Int32 → Prop} {c : Nat} (hc : c < cN) (h8 : cN ≤ 8) (h : post 1) : wpX_isConstructor post (fT, fP, fR, nI cN, fN, fQ, fW, cm, sr, fG, pk, ar, tc, t0, t1, hX, kd, pl, pf, ps, us, fi, rp, rg, r1, r2, sb, gl, rb, pp, pt) (nI c) :=
  br_f (bm_nge (by omega)) (br_f (nI_ge hc (by omega)) h)
theorem xx_cons_f {post : Int32 → Prop} {c : Int32} (hc : c < 0 ∨ nI cN ≤ c) (h : post 0) : wpX_isConstructor post (fT, fP, fR, nI cN, fN, fQ, fW, cm, sr, fG, pk, ar, tc, t0, t1, hX, kd, pl, pf, ps, us, fi, rp, rg, r1, r2, sb, gl, rb, pp, pt) c :=
  br_c (fun _ => h) (fun z => br_t (hc.resolve_left z) h)
theorem xx_term_t {post : Int32 → Prop} {c : Nat} (hc : c < tN) (h8 : tN ≤ 64) (h : post 1) : wpX_isTerm post (fT, fP, fR, fC, nI tN, fQ, fW, cm, sr, fG, pk, ar, tc, t0, t1, hX, kd, pl, pf, ps, us, fi, rp, rg, r1, r2, sb, gl, rb, pp, pt) (nI c) :=
  br_f (bm_nge (by omega)) (br_f (nI_ge hc (by omega)) h)
theorem xx_term_f {post : Int32 → Prop} {c : Int32} (hc : c < 0 ∨ nI tN ≤ c) (h : post 0) : wpX_isTerm post (fT, fP, fR, fC, nI tN, fQ, fW, cm, sr, fG, pk, ar, tc, t0, t1, hX, kd, pl, pf, ps, us, fi, rp, rg, r1, r2, sb, gl, rb, pp, pt) c :=
  br_c (fun _ => h) (fun z => br_t (hc.resolve_left z) h)
theorem xx_var_t {post : Int32 → Prop} {c : Nat} (hc : c < 8) (h : post 1) : wpX_isVariable post (fT, fP, fR, fC, fN, fQ, fW, cm, sr, fG, pk, ar, tc, t0, t1, hX, kd, pl, pf, ps, us, fi, rp, rg, r1, r2, sb, gl, rb, pp, pt) (nI c) :=
  br_f (bm_nge (by omega)) (br_f (nI_ge (b := 8) hc (by decide)) h)
theorem xx_var_f {post : Int32 → Prop} {c : Int32} (hc : c < 0 ∨ nI 8 ≤ c) (h : post 0) : wpX_isVariable post (fT, fP, fR, fC, fN, fQ, fW, cm, sr, fG, pk, ar, tc, t0, t1, hX, kd, pl, pf, ps, us, fi, rp, rg, r1, r2, sb, gl, rb, pp, pt) c :=
  br_c (fun _ => h) (fun z => br_t (hc.resolve_left z) h)
/-- not a free pattern -/
def bm_NFree (us : Nat → Int32) (pN : Nat) (b : Int32) : Prop := b < 0 ∨ nI pN ≤ b ∨ ∃ q, q < pN ∧ b = nI q ∧ ¬ us q = 0
def bm_Free (us : Nat → Int32) (pN : Nat) (b : Int32) : Prop := ∃ q, q < pN ∧ b = nI q ∧ us q = 0
theorem bm_free (us : Nat → Int32) {pN : Nat} (h : pN ≤ 64) (b : Int32) : bm_Free us pN b ∨ bm_NFree us pN b := by
  rcases pk_ix b (n := pN) (by omega) with h1 | h1 | ⟨q, hq, e⟩
  · exact Or.inr (Or.inl h1)
  · exact Or.inr (Or.inr (Or.inl h1))
  · by_cases z : us q = 0
    · exact Or.inl ⟨q, hq, e, z⟩
    · exact Or.inr (Or.inr (Or.inr ⟨q, hq, e, z⟩))
theorem xx_free_t {post : Int32 → Prop} {q : Nat} (hq : q < pN) (h6 : pN ≤ 64) (h0 : us q = 0) (h : post 1) : wpX_isFreePattern post (fT, fP, fR, fC, fN, nI pN, fW, cm, sr, fG, pk, ar, tc, t0, t1, hX, kd, pl, pf, ps, us, fi, rp, rg, r1, r2, sb, gl, rb, pp, pt) (nI q) :=
  br_f (bm_nge (by omega)) (br_f (nI_ge hq (by omega)) ⟨vp_in_nI (by omega) (by omega), br_t (by rw [nI_clamp (by omega)]; exact h0) h⟩)
theorem xx_free_f {post : Int32 → Prop} {b : Int32} (h6 : pN ≤ 64) (hb : bm_NFree us pN b) (h : post 0) : wpX_isFreePattern post (fT, fP, fR, fC, fN, nI pN, fW, cm, sr, fG, pk, ar, tc, t0, t1, hX, kd, pl, pf, ps, us, fi, rp, rg, r1, r2, sb, gl, rb, pp, pt) b := by
  rcases hb with z | z | ⟨q, hq, rfl, h0⟩
  · exact br_t z h
  · exact br_c (fun _ => h) (fun _ => br_t z h)
  · exact br_f (bm_nge (by omega)) (br_f (nI_ge hq (by omega)) ⟨vp_in_nI (by omega) (by omega), br_f (by rw [nI_clamp (by omega)]; exact h0) h⟩)
theorem xx_fits {post : Int32 → Prop} {p t : Nat} (hp : p < 64) (ht : t < 64) (h01 : ∀ i, fi i = 0 ∨ fi i = 1) (h : post (fi (p * 64 + t))) : wpX_patternFits post (fT, fP, fR, fC, fN, fQ, fW, cm, sr, fG, pk, ar, tc, t0, t1, hX, kd, pl, pf, ps, us, fi, rp, rg, r1, r2, sb, gl, rb, pp, pt) (nI p) (nI t) := by
  have e : (nI p * 64 + nI t).toNatClampNeg = p * 64 + t := by rw [bm_m64, nI_clamp (by omega)]
  refine ⟨by rw [bm_m64]; exact vp_in_nI (by omega) (by omega), ?_, ?_⟩
  · rw [e]
    exact bm_01b (h01 _)
  · rw [e]
    exact h
/-- the second half of a constructor's node -/
theorem xx_89n {post : Int32 → Prop} {x2 : Int32} (h : post 1) : wX_nodeFits_89 post x2 (-1) fT fP fR fC fN fQ fW cm sr fG pk ar tc t0 t1 hX kd pl pf ps us fi rp rg r1 r2 sb gl rb pp pt := br_t rfl h
theorem xx_89 {post : Int32 → Prop} {t r k : Nat} (hr : r < 64) (ht : t < 64) (hk : k < 64) (ek : t1 t = nI k) (h01 : ∀ i, fi i = 0 ∨ fi i = 1) (h0 : fi (r * 64 + k) = 0 → post 0) (h1 : fi (r * 64 + k) = 1 → post 1) : wX_nodeFits_89 post (nI t) (nI r) fT fP fR fC fN fQ fW cm sr fG pk ar tc t0 t1 hX kd pl pf ps us fi rp rg r1 r2 sb gl rb pp pt := by
  refine br_f (bm_ne1 (by omega)) ⟨vp_in_nI (by omega) (by omega), ?_⟩
  rw [nI_clamp (by omega), ek]
  refine xx_fits hr hk h01 (br_c h0 (fun z => h1 (bm_01t (h01 _) z)))
theorem xx_nodeFits {post : Int32 → Prop} {p t : Nat} (hcN : cN ≤ 8) (hp : p < 64) (ht : t < 64) (hN : bm_Nd ar kd pl pf ps pA pB pC cN p) (hT : bm_Tm ar tc t0 t1 hX H cN t) (h01 : ∀ i, fi i = 0 ∨ fi i = 1)
    (h : ∀ v, v = 0 ∨ v = 1 → bm_NF kd pl pf ps tc t0 t1 fi p t v → post v) : wpX_nodeFits post (fT, fP, fR, fC, fN, fQ, fW, cm, sr, fG, pk, ar, tc, t0, t1, hX, kd, pl, pf, ps, us, fi, rp, rg, r1, r2, sb, gl, rb, pp, pt) (nI p) (nI t) := by
  have cp : (nI p).toNatClampNeg = p := nI_clamp (by omega)
  have ct : (nI t).toNatClampNeg = t := nI_clamp (by omega)
  have vi : vp_in (nI p) 64 := vp_in_nI hp (by omega)
  have vt : vp_in (nI t) 64 := vp_in_nI ht (by omega)
  have nf0 : kd p = 2 → ¬ pl p = tc t → bm_NF kd pl pf ps tc t0 t1 fi p t 0 := by
    intro ek z
    refine ⟨fun w => ?_, fun w => ?_, fun _ => ⟨fun w => absurd w bm_n01, fun w => absurd w.1 z⟩, fun w => ?_⟩ <;> (rw [ek] at w; exact absurd w (by decide))
  have nf2 : ∀ v, kd p = 2 → (v = 1 ↔ pl p = tc t ∧ (pf p = -1 ∨ fi ((pf p).toNatClampNeg * 64 + (t0 t).toNatClampNeg) = 1) ∧ (ps p = -1 ∨ fi ((ps p).toNatClampNeg * 64 + (t1 t).toNatClampNeg) = 1)) → bm_NF kd pl pf ps tc t0 t1 fi p t v := by
    intro v ek z
    refine ⟨fun w => ?_, fun w => ?_, fun _ => z, fun w => ?_⟩ <;> (rw [ek] at w; exact absurd w (by decide))
  have nf3 : ∀ v, kd p = 3 → (v = 1 ↔ fi ((pf p).toNatClampNeg * 64 + t) = 1 ∨ fi ((ps p).toNatClampNeg * 64 + t) = 1) → bm_NF kd pl pf ps tc t0 t1 fi p t v := by
    intro v ek z
    refine ⟨fun w => ?_, fun w => ?_, fun w => ?_, fun _ => z⟩ <;> (rw [ek] at w; exact absurd w (by decide))
  rcases hN with ⟨ek, e1, e2⟩ | ⟨x, q, ek, _, hq, _, e1, e2, _⟩ | ⟨c, ek, _, _, el, e1, e2, _⟩ | ⟨c, q, ek, hc, ea, hq, el, e1, e2, _⟩ | ⟨c, q, r, ek, hc, ea, hq, hr, _, el, e1, e2, _⟩ | ⟨q, r, ek, hq, hr, _, e1, e2, _⟩
  · refine ⟨vi, nm_r ((congrArg pf cp).trans e1) ⟨vi, nm_r ((congrArg ps cp).trans e2) ⟨vi, nm_r ((congrArg kd cp).trans ek) (br_t (by decide) (h 1 (Or.inr rfl) ?_))⟩⟩⟩
    refine ⟨fun _ => rfl, fun w => ?_, fun w => ?_, fun w => ?_⟩ <;> (rw [ek] at w; exact absurd w (by decide))
  · refine ⟨vi, nm_r ((congrArg pf cp).trans e1) ⟨vi, nm_r ((congrArg ps cp).trans e2) ⟨vi, nm_r ((congrArg kd cp).trans ek) (br_f (by decide) (br_f (by decide) (br_t rfl (xx_fits (by omega) ht h01 ⟨bm_01b (h01 _), h _ (h01 _) ?_⟩))))⟩⟩⟩
    refine ⟨fun w => ?_, fun _ => ?_, fun w => ?_, fun w => ?_⟩
    · rw [ek] at w; exact absurd w (by decide)
    · rw [e1, nI_clamp (by omega)]
    · rw [ek] at w; exact absurd w (by decide)
    · rw [ek] at w; exact absurd w (by decide)
  · refine ⟨vi, nm_r ((congrArg pf cp).trans e1) ⟨vi, nm_r ((congrArg ps cp).trans e2) ⟨vi, nm_r ((congrArg kd cp).trans ek) (br_f (by decide) (br_f (by decide) (br_f (by decide) (br_t rfl ⟨vi, vt, br_c (fun z => br_t rfl (xx_89n (h 1 (Or.inr rfl) ?_))) (fun z => h 0 (Or.inl rfl) ?_)⟩))))⟩⟩⟩
    · rw [cp, ct] at z
      exact nf2 1 ek ⟨fun _ => ⟨z, Or.inl e1, Or.inl e2⟩, fun _ => rfl⟩
    · rw [cp, ct] at z
      exact nf0 ek z
  · refine ⟨vi, nm_r ((congrArg pf cp).trans e1) ⟨vi, nm_r ((congrArg ps cp).trans e2) ⟨vi, nm_r ((congrArg kd cp).trans ek) (br_f (by decide) (br_f (by decide) (br_f (by decide) (br_t rfl ⟨vi, vt, br_c (fun z => br_f (bm_ne1 (by omega)) ⟨vt, ?_⟩) (fun z => h 0 (Or.inl rfl) ?_)⟩))))⟩⟩⟩
    · rw [cp, ct] at z
      obtain ⟨d, hd, td, _, _, _, hk⟩ := hT
      have := bm_ar hc hd hcN (el.symm.trans (z.trans td))
      subst this
      obtain ⟨j, hj, ej⟩ : ∃ j, j < t ∧ t0 t = nI j := by
        rcases hk with ⟨w, _⟩ | ⟨j, _, _, hj, ej, _⟩ | ⟨j, k, w, _⟩
        · rw [ea] at w; exact absurd w (by decide)
        · exact ⟨j, hj, ej⟩
        · rw [ea] at w; exact absurd w (by decide)
      have g : ∀ v, (v = 1 ↔ fi (q * 64 + j) = 1) → bm_NF kd pl pf ps tc t0 t1 fi p t v := by
        intro v w
        refine nf2 v ek ?_
        rw [e1, ej, nI_clamp (by omega), nI_clamp (by omega), w]
        exact ⟨fun y => ⟨z, Or.inr y, Or.inl e2⟩, fun y => y.2.1.resolve_left (bm_ne1 (by omega))⟩
      rw [ct, ej]
      refine xx_fits (by omega) (by omega) h01 (br_c (fun w => h 0 (Or.inl rfl) (g 0 ?_)) (fun w => xx_89n (h 1 (Or.inr rfl) (g 1 ?_))))
      · rw [w]
      · rw [bm_01t (h01 _) w]
    · rw [cp, ct] at z
      exact nf0 ek z
  · refine ⟨vi, nm_r ((congrArg pf cp).trans e1) ⟨vi, nm_r ((congrArg ps cp).trans e2) ⟨vi, nm_r ((congrArg kd cp).trans ek) (br_f (by decide) (br_f (by decide) (br_f (by decide) (br_t rfl ⟨vi, vt, br_c (fun z => br_f (bm_ne1 (by omega)) ⟨vt, ?_⟩) (fun z => h 0 (Or.inl rfl) ?_)⟩))))⟩⟩⟩
    · rw [cp, ct] at z
      obtain ⟨d, hd, td, _, _, _, hk⟩ := hT
      have := bm_ar hc hd hcN (el.symm.trans (z.trans td))
      subst this
      obtain ⟨j, k, hj, hk', ej, ek'⟩ : ∃ j k, j < t ∧ k < t ∧ t0 t = nI j ∧ t1 t = nI k := by
        rcases hk with ⟨w, _⟩ | ⟨j, w, _⟩ | ⟨j, k, _, hj, hk, ej, ek, _⟩
        · rw [ea] at w; exact absurd w (by decide)
        · rw [ea] at w; exact absurd w (by decide)
        · exact ⟨j, k, hj, hk, ej, ek⟩
      have g : ∀ v, (v = 1 ↔ fi (q * 64 + j) = 1 ∧ fi (r * 64 + k) = 1) → bm_NF kd pl pf ps tc t0 t1 fi p t v := by
        intro v w
        refine nf2 v ek ?_
        rw [e1, e2, ej, ek', nI_clamp (by omega), nI_clamp (by omega), nI_clamp (by omega), nI_clamp (by omega), w]
        exact ⟨fun y => ⟨z, Or.inr y.1, Or.inr y.2⟩, fun y => ⟨y.2.1.resolve_left (bm_ne1 (by omega)), y.2.2.resolve_left (bm_ne1 (by omega))⟩⟩
      rw [ct, ej]
      refine xx_fits (by omega) (by omega) h01 (br_c (fun w => h 0 (Or.inl rfl) (g 0 ⟨fun y => absurd y bm_n01, fun y => ?_⟩)) (fun w => xx_89 (by omega) ht (by omega) ek' h01 (fun y => h 0 (Or.inl rfl) (g 0 ⟨fun x => absurd x bm_n01, fun x => ?_⟩)) (fun y => h 1 (Or.inr rfl) (g 1 ⟨fun _ => ⟨bm_01t (h01 _) w, y⟩, fun _ => rfl⟩))))
      · have := y.1
        rw [w] at this
        exact this
      · have := x.2
        rw [y] at this
        exact this
    · rw [cp, ct] at z
      exact nf0 ek z
  · have g : ∀ v, (v = 1 ↔ fi (q * 64 + t) = 1 ∨ fi (r * 64 + t) = 1) → bm_NF kd pl pf ps tc t0 t1 fi p t v := by
      intro v w
      refine nf3 v ek ?_
      rw [e1, e2, nI_clamp (by omega), nI_clamp (by omega)]
      exact w
    refine ⟨vi, nm_r ((congrArg pf cp).trans e1) ⟨vi, nm_r ((congrArg ps cp).trans e2) ⟨vi, nm_r ((congrArg kd cp).trans ek) (br_f (by decide) (br_f (by decide) (br_f (by decide) (br_f (by decide) (br_t rfl (xx_fits (by omega) ht h01 (br_c (fun w => xx_fits (by omega) ht h01 (br_c (fun y => h 0 (Or.inl rfl) (g 0 ⟨fun x => absurd x bm_n01, fun x => ?_⟩)) (fun y => h 1 (Or.inr rfl) (g 1 ⟨fun _ => Or.inr (bm_01t (h01 _) y), fun _ => rfl⟩)))) (fun w => h 1 (Or.inr rfl) (g 1 ⟨fun _ => Or.inl (bm_01t (h01 _) w), fun _ => rfl⟩)))))))))⟩⟩⟩
    rcases x with x | x
    · rw [w] at x
      exact x
    · rw [y] at x
      exact x
theorem xx_record {post : SX → Prop} {p t : Nat} (hcN : cN ≤ 8) (hp : p < 64) (ht : t < 64) (hN : bm_Nd ar kd pl pf ps pA pB pC cN p) (hT : bm_Tm ar tc t0 t1 hX H cN t) (h01 : ∀ i, fi i = 0 ∨ fi i = 1)
    (h : ∀ v, v = 0 ∨ v = 1 → bm_NF kd pl pf ps tc t0 t1 fi p t v → post (fT, fP, fR, fC, fN, fQ, fW, cm, sr, fG, pk, ar, tc, t0, t1, hX, kd, pl, pf, ps, us, upd fi (p * 64 + t) v, rp, rg, r1, r2, sb, gl, rb, pp, pt)) : wpX_recordFit post (fT, fP, fR, fC, fN, fQ, fW, cm, sr, fG, pk, ar, tc, t0, t1, hX, kd, pl, pf, ps, us, fi, rp, rg, r1, r2, sb, gl, rb, pp, pt) (nI p) (nI t) := by
  unfold wpX_recordFit
  dsimp only
  refine xx_nodeFits hcN hp ht hN hT h01 (fun v hv hn => ⟨?_, nm_r ?_ (h v hv hn)⟩)
  · rw [bm_m64]
    exact vp_in_nI (by omega) (by omega)
  · rw [bm_m64, nI_clamp (by omega), bm_01n hv]
end
end
section
/-! term: the component's and the reference's walks -/
theorem bm_uq {f : Nat → Int32} {k : Nat} {v : Int32} (h : k < 2 ^ 31) : upd f (nI k).toNatClampNeg v = upd f k v := by rw [nI_clamp h]
section
variable {fT fP fR fC fN fQ fW cm sr fG pk : Int32} {ar tc t0 t1 hX kd pl pf ps us fi rp rg r1 r2 sb gl rb pp pt hg pA pB pC pa ok rY st : Nat → Int32} {H sz : Nat → Nat} {cN pN tN rN : Nat}
theorem xx_54 {post : Int32 → SX → Prop} (hcN : cN ≤ 8) (hp6 : pN ≤ 64) (ht6 : tN < 64) (hN : ∀ p, p < pN → bm_Nd ar kd pl pf ps pA pB pC cN p) (hT : ∀ t, t < tN + 1 → bm_Tm ar tc t0 t1 hX H cN t)
    (hpost : ∀ fi', bm_IF kd pl pf ps tc t0 t1 fi' pN (tN + 1) → post (nI tN) (fT, fP, fR, fC, fN, nI pN, fW, cm, sr, fG, pk, ar, tc, t0, t1, hX, kd, pl, pf, ps, us, fi', rp, rg, r1, r2, sb, gl, rb, pp, pt)) : ∀ (d i n : Nat) (fi : Nat → Int32), i + d = pN → d < n →
      bm_FG kd pl pf ps tc t0 t1 fi (fun p t => p < pN ∧ (t < tN ∨ (t = tN ∧ p < i))) → wX_storeTerm_54 post (nI tN) n (nI i) fT fP fR fC fN (nI pN) fW cm sr fG pk ar tc t0 t1 hX kd pl pf ps us fi rp rg r1 r2 sb gl rb pp pt := by
  intro d
  induction d with
  | zero =>
    intro i n fi hi hn hF
    obtain ⟨m, rfl⟩ : ∃ m, n = m + 1 := ⟨n - 1, by omega⟩
    exact br_t (nI_le (by omega) (by omega)) (hpost fi (bm_FG_te (bm_FG_m hF (fun p t z => by omega))))
  | succ d ih =>
    intro i n fi hi hn hF
    obtain ⟨m, rfl⟩ : ∃ m, n = m + 1 := ⟨n - 1, by omega⟩
    exact br_f (nI_ge (by omega) (by omega)) (xx_record hcN (by omega) (by omega) (hN i (by omega)) (hT tN (by omega)) hF.1 (fun v hv hn' => nm_r (nI_1 i) (ih (i + 1) m _ (by omega) (by omega) (bm_FG_ts hp6 ht6 hN hT (by omega) hF hn' hv))))
theorem xx_h0 {post : Int32 → Prop} (h : post (nI 1)) : wpX_heightAbove post (fT, fP, fR, fC, fN, fQ, fW, cm, sr, fG, pk, ar, tc, t0, t1, hX, kd, pl, pf, ps, us, fi, rp, rg, r1, r2, sb, gl, rb, pp, pt) (-1) (-1) := br_t rfl (br_t rfl h)
theorem xx_h1 {post : Int32 → Prop} {j a : Nat} (hj : j < 64) (e : hX j = nI a) (h : post (nI (a + 1))) : wpX_heightAbove post (fT, fP, fR, fC, fN, fQ, fW, cm, sr, fG, pk, ar, tc, t0, t1, hX, kd, pl, pf, ps, us, fi, rp, rg, r1, r2, sb, gl, rb, pp, pt) (nI j) (-1) := by
  refine br_f (bm_ne1 (by omega)) ⟨vp_in_nI hj (by omega), ?_⟩
  rw [nI_clamp (by omega), e]
  refine br_t rfl ?_
  rw [nI_1]
  exact h
theorem xx_h2 {post : Int32 → Prop} {j k a b : Nat} (hj : j < 64) (hk : k < 64) (e : hX j = nI a) (e' : hX k = nI b) (ha : a < 2 ^ 20) (hb : b < 2 ^ 20) (h : post (nI ((if a < b then b else a) + 1))) : wpX_heightAbove post (fT, fP, fR, fC, fN, fQ, fW, cm, sr, fG, pk, ar, tc, t0, t1, hX, kd, pl, pf, ps, us, fi, rp, rg, r1, r2, sb, gl, rb, pp, pt) (nI j) (nI k) := by
  refine br_f (bm_ne1 (by omega)) ⟨vp_in_nI hj (by omega), ?_⟩
  rw [nI_clamp (by omega), e]
  have ck : (nI k).toNatClampNeg = k := nI_clamp (by omega)
  refine br_f (bm_ne1 (by omega)) ⟨vp_in_nI hk (by omega), ?_⟩
  rw [ck, e']
  by_cases z : a < b
  · refine br_f (nI_ge z (by omega)) ⟨vp_in_nI hk (by omega), nm_r rfl ?_⟩
    rw [if_pos z] at h
    rw [nI_1]
    exact h
  · refine br_t (nI_le (by omega) (by omega)) ?_
    rw [if_neg z] at h
    rw [nI_1]
    exact h
theorem xx_storeTerm {post : Int32 → SX → Prop} {c f s : Int32} {g : Nat} (hcN : cN ≤ 8) (hp6 : pN ≤ 64) (ht6 : tN < 64) (hN : ∀ p, p < pN → bm_Nd ar kd pl pf ps pA pB pC cN p) (hT : bm_IT ar tc t0 t1 hX H cN tN) (hF : bm_IF kd pl pf ps tc t0 t1 fi pN tN)
    (hh : ∀ post' : Int32 → Prop, post' (nI g) → wpX_heightAbove post' (fT, fP, fR, fC, nI tN, nI pN, fW, cm, sr, fG, pk, ar, upd tc tN c, upd t0 tN f, upd t1 tN s, hX, kd, pl, pf, ps, us, fi, rp, rg, r1, r2, sb, gl, rb, pp, pt) f s)
    (hnew : bm_Tm ar (upd tc tN c) (upd t0 tN f) (upd t1 tN s) (upd hX tN (nI g)) (bm_un H tN g) cN tN)
    (hpost : ∀ fi', bm_IF kd pl pf ps (upd tc tN c) (upd t0 tN f) (upd t1 tN s) fi' pN (tN + 1) → post (nI tN) (fT, fP, fR, fC, nI (tN + 1), nI pN, fW, cm, sr, fG, pk, ar, upd tc tN c, upd t0 tN f, upd t1 tN s, upd hX tN (nI g), kd, pl, pf, ps, us, fi', rp, rg, r1, r2, sb, gl, rb, pp, pt)) :
    wpX_storeTerm post (fT, fP, fR, fC, nI tN, nI pN, fW, cm, sr, fG, pk, ar, tc, t0, t1, hX, kd, pl, pf, ps, us, fi, rp, rg, r1, r2, sb, gl, rb, pp, pt) c f s := by
  have vi : vp_in (nI tN) 64 := vp_in_nI ht6 (by omega)
  have hT' := bm_IT_new hT ht6 hnew
  refine ⟨vi, nm_r (bm_uq (by omega)) ⟨vi, nm_r (bm_uq (by omega)) ⟨vi, nm_r (bm_uq (by omega)) ?_⟩⟩⟩
  refine hh _ ⟨vi, nm_r (bm_uq (by omega)) (nm_r (nI_1 tN) ⟨pN + 1, ?_⟩)⟩
  exact xx_54 hcN hp6 ht6 hN hT'.2 hpost pN 0 (pN + 1) fi (by omega) (by omega) (bm_FG_t hF)
/-- the component finds, or not -/
theorem xx_find_f {post : Int32 → Prop} {c f s : Int32} (ht6 : tN ≤ 64) (hno : ∀ i, i < tN → ¬ (tc i = c ∧ t0 i = f ∧ t1 i = s)) (h : post (-1)) : ∀ (d i n : Nat), i + d = tN → d < n → wX_findTerm_3 post c f s fT fP fR fC (nI tN) fQ fW cm sr fG pk ar tc t0 t1 hX kd pl pf ps us fi rp rg r1 r2 sb gl rb pp pt n (nI i) := by
  intro d
  induction d with
  | zero =>
    intro i n hi hn
    obtain ⟨m, rfl⟩ : ∃ m, n = m + 1 := ⟨n - 1, by omega⟩
    exact br_t (nI_le (by omega) (by omega)) h
  | succ d ih =>
    intro i n hi hn
    obtain ⟨m, rfl⟩ : ∃ m, n = m + 1 := ⟨n - 1, by omega⟩
    have vi : vp_in (nI i) 64 := vp_in_nI (by omega) (by omega)
    have ci : (nI i).toNatClampNeg = i := nI_clamp (by omega)
    have nx := ih (i + 1) m (by omega) (by omega)
    refine br_f (nI_ge (by omega) (by omega)) ⟨vi, br_c (fun a => ⟨vi, br_c (fun b => ⟨vi, br_c (fun e => ?_) (fun _ => nm_r (nI_1 i) nx)⟩) (fun _ => nm_r (nI_1 i) nx)⟩) (fun _ => nm_r (nI_1 i) nx)⟩
    rw [ci] at a b e
    exact absurd ⟨a, b, e⟩ (hno i (by omega))
theorem xx_find_t {post : Int32 → Prop} {c f s : Int32} {j : Nat} (ht6 : tN ≤ 64) (hj : j < tN) (hno : ∀ i, i < j → ¬ (tc i = c ∧ t0 i = f ∧ t1 i = s)) (hy : tc j = c ∧ t0 j = f ∧ t1 j = s) (h : post (nI j)) : ∀ (d i n : Nat), i + d = j → d < n → wX_findTerm_3 post c f s fT fP fR fC (nI tN) fQ fW cm sr fG pk ar tc t0 t1 hX kd pl pf ps us fi rp rg r1 r2 sb gl rb pp pt n (nI i) := by
  intro d
  induction d with
  | zero =>
    intro i n hi hn
    obtain ⟨m, rfl⟩ : ∃ m, n = m + 1 := ⟨n - 1, by omega⟩
    have e : i = j := by omega
    subst e
    have vi : vp_in (nI i) 64 := vp_in_nI (by omega) (by omega)
    have ci : (nI i).toNatClampNeg = i := nI_clamp (by omega)
    exact br_f (nI_ge (by omega) (by omega)) ⟨vi, br_t (by rw [ci]; exact hy.1) ⟨vi, br_t (by rw [ci]; exact hy.2.1) ⟨vi, br_t (by rw [ci]; exact hy.2.2) h⟩⟩⟩
  | succ d ih =>
    intro i n hi hn
    obtain ⟨m, rfl⟩ : ∃ m, n = m + 1 := ⟨n - 1, by omega⟩
    have vi : vp_in (nI i) 64 := vp_in_nI (by omega) (by omega)
    have ci : (nI i).toNatClampNeg = i := nI_clamp (by omega)
    have nx := ih (i + 1) m (by omega) (by omega)
    refine br_f (nI_ge (by omega) (by omega)) ⟨vi, br_c (fun a => ⟨vi, br_c (fun b => ⟨vi, br_c (fun e => ?_) (fun _ => nm_r (nI_1 i) nx)⟩) (fun _ => nm_r (nI_1 i) nx)⟩) (fun _ => nm_r (nI_1 i) nx)⟩
    rw [ci] at a b e
    exact absurd ⟨a, b, e⟩ (hno i (by omega))
/-- the reference's test at node i -/
def bm_YF (tc t0 t1 : Nat → Int32) (c x2 x3 A : Int32) (i : Nat) : Prop := tc i = c ∧ (A < 1 ∨ t0 i = x2) ∧ (A < 2 ∨ t1 i = x3)
theorem yy_hit {post : Int32 → SY → Prop} {c x2 x3 A : Int32} {i n : Nat} (ht6 : tN ≤ 64) (hi : i < tN) (hy : bm_YF tc t0 t1 c x2 x3 A i) (h : post (nI i) (fT, fP, fR, fC, nI tN, fQ, fW, cm, sr, fG, ar, tc, t0, t1, hg, kd, pA, pB, pC, us, rp, rg, r1, r2, sb, gl, pa, ok, rY, st)) : wY_term_65 post c x2 x3 A fT fP fR fC (nI tN) fQ fW cm sr fG ar tc t0 t1 hg kd pA pB pC us rp rg r1 r2 sb gl pa ok rY st (n + 1) (nI i) := by
  have vi : vp_in (nI i) 64 := vp_in_nI (by omega) (by omega)
  have ci : (nI i).toNatClampNeg = i := nI_clamp (by omega)
  obtain ⟨h1, h2, h3⟩ := hy
  have k : wY_term_102 post (wY_term_65 post c x2 x3 A fT fP fR fC (nI tN) fQ fW cm sr fG ar tc t0 t1 hg kd pA pB pC us rp rg r1 r2 sb gl pa ok rY st n) c x2 x3 A (nI i) fT fP fR fC (nI tN) fQ fW cm sr fG ar tc t0 t1 hg kd pA pB pC us rp rg r1 r2 sb gl pa ok rY st := by
    refine br_c (fun _ => h) (fun z => ⟨vi, br_t ?_ h⟩)
    rw [ci]
    exact h3.resolve_left z
  refine br_f (nI_ge hi (by omega)) ⟨vi, br_t (by rw [ci]; exact h1) (br_c (fun _ => k) (fun z => ⟨vi, br_t ?_ k⟩))⟩
  rw [ci]
  exact h2.resolve_left z
theorem yy_next {post : Int32 → SY → Prop} {c x2 x3 A : Int32} {i n : Nat} (ht6 : tN ≤ 64) (hi : i < tN) (hy : ¬ bm_YF tc t0 t1 c x2 x3 A i) (h : wY_term_65 post c x2 x3 A fT fP fR fC (nI tN) fQ fW cm sr fG ar tc t0 t1 hg kd pA pB pC us rp rg r1 r2 sb gl pa ok rY st n (nI (i + 1))) : wY_term_65 post c x2 x3 A fT fP fR fC (nI tN) fQ fW cm sr fG ar tc t0 t1 hg kd pA pB pC us rp rg r1 r2 sb gl pa ok rY st (n + 1) (nI i) := by
  have vi : vp_in (nI i) 64 := vp_in_nI (by omega) (by omega)
  have ci : (nI i).toNatClampNeg = i := nI_clamp (by omega)
  have k : (tc i = c) → (A < 1 ∨ t0 i = x2) → wY_term_102 post (wY_term_65 post c x2 x3 A fT fP fR fC (nI tN) fQ fW cm sr fG ar tc t0 t1 hg kd pA pB pC us rp rg r1 r2 sb gl pa ok rY st n) c x2 x3 A (nI i) fT fP fR fC (nI tN) fQ fW cm sr fG ar tc t0 t1 hg kd pA pB pC us rp rg r1 r2 sb gl pa ok rY st := by
    intro a b
    refine br_c (fun z => absurd ⟨a, b, Or.inl z⟩ hy) (fun z => ⟨vi, br_c (fun w => ?_) (fun _ => nm_r (nI_1 i) h)⟩)
    rw [ci] at w
    exact absurd ⟨a, b, Or.inr w⟩ hy
  refine br_f (nI_ge hi (by omega)) ⟨vi, br_c (fun a => br_c (fun b => k (by rw [ci] at a; exact a) (Or.inl b)) (fun b => ⟨vi, br_c (fun w => k (by rw [ci] at a; exact a) (Or.inr (by rw [ci] at w; exact w))) (fun _ => nm_r (nI_1 i) h)⟩)) (fun _ => nm_r (nI_1 i) h)⟩
theorem yy_find_f {post : Int32 → SY → Prop} {c x2 x3 A : Int32} (ht6 : tN ≤ 64) (hno : ∀ i, i < tN → ¬ bm_YF tc t0 t1 c x2 x3 A i) (h : ∀ n, wY_term_65 post c x2 x3 A fT fP fR fC (nI tN) fQ fW cm sr fG ar tc t0 t1 hg kd pA pB pC us rp rg r1 r2 sb gl pa ok rY st (n + 1) (nI tN)) : ∀ (d i n : Nat), i + d = tN → d < n → wY_term_65 post c x2 x3 A fT fP fR fC (nI tN) fQ fW cm sr fG ar tc t0 t1 hg kd pA pB pC us rp rg r1 r2 sb gl pa ok rY st n (nI i) := by
  intro d
  induction d with
  | zero =>
    intro i n hi hn
    obtain ⟨m, rfl⟩ : ∃ m, n = m + 1 := ⟨n - 1, by omega⟩
    have e : i = tN := by omega
    rw [e]
    exact h m
  | succ d ih =>
    intro i n hi hn
    obtain ⟨m, rfl⟩ : ∃ m, n = m + 1 := ⟨n - 1, by omega⟩
    exact yy_next ht6 (by omega) (hno i (by omega)) (ih (i + 1) m (by omega) (by omega))
theorem yy_find_t {post : Int32 → SY → Prop} {c x2 x3 A : Int32} {j : Nat} (ht6 : tN ≤ 64) (hj : j < tN) (hno : ∀ i, i < j → ¬ bm_YF tc t0 t1 c x2 x3 A i) (hy : bm_YF tc t0 t1 c x2 x3 A j) (h : post (nI j) (fT, fP, fR, fC, nI tN, fQ, fW, cm, sr, fG, ar, tc, t0, t1, hg, kd, pA, pB, pC, us, rp, rg, r1, r2, sb, gl, pa, ok, rY, st)) : ∀ (d i n : Nat), i + d = j → d < n → wY_term_65 post c x2 x3 A fT fP fR fC (nI tN) fQ fW cm sr fG ar tc t0 t1 hg kd pA pB pC us rp rg r1 r2 sb gl pa ok rY st n (nI i) := by
  intro d
  induction d with
  | zero =>
    intro i n hi hn
    obtain ⟨m, rfl⟩ : ∃ m, n = m + 1 := ⟨n - 1, by omega⟩
    have e : i = j := by omega
    rw [e]
    exact yy_hit ht6 hj hy h
  | succ d ih =>
    intro i n hi hn
    obtain ⟨m, rfl⟩ : ∃ m, n = m + 1 := ⟨n - 1, by omega⟩
    exact yy_next ht6 (by omega) (hno i (by omega)) (ih (i + 1) m (by omega) (by omega))
end
end
section
/-! the relation, and the methods that need little -/
def bm_J (T P R cN tN pN rN gN : Nat) (ar tc t0 t1 hX kd pl pf ps us fi rp rg r1 r2 pA pB pC : Nat → Int32) (H sz : Nat → Nat) : Prop :=
  (tN ≤ T ∧ T ≤ 64 ∧ pN ≤ P ∧ P ≤ 64 ∧ rN ≤ R ∧ R ≤ 8 ∧ gN ≤ 8 ∧ cN ≤ 8) ∧ (∀ c, c < cN → ar c = 0 ∨ ar c = 1 ∨ ar c = 2) ∧
  bm_IP ar kd pl pf ps pA pB pC us sz cN pN ∧ bm_IT ar tc t0 t1 hX H cN tN ∧ bm_IF kd pl pf ps tc t0 t1 fi pN tN ∧ bm_IR rp rg r1 r2 sz pN rN
def i_Rel (k : Nat) (u : SX) (v : SY) : Prop :=
  ∃ (T P R cN tN pN rN gN : Nat) (cm sr pk : Int32) (ar tc t0 t1 hX kd pl pf ps us fi rp rg r1 r2 sb gl rb pp pt hg pA pB pC pa ok rY st : Nat → Int32) (H sz : Nat → Nat),
    u = (nI T, nI P, nI R, nI cN, nI tN, nI pN, nI rN, cm, sr, nI gN, pk, ar, tc, t0, t1, hX, kd, pl, pf, ps, us, fi, rp, rg, r1, r2, sb, gl, rb, pp, pt) ∧ v = (nI T, nI P, nI R, nI cN, nI tN, nI pN, nI rN, cm, sr, nI gN, ar, tc, t0, t1, hg, kd, pA, pB, pC, us, rp, rg, r1, r2, sb, gl, pa, ok, rY, st) ∧ bm_J T P R cN tN pN rN gN ar tc t0 t1 hX kd pl pf ps us fi rp rg r1 r2 pA pB pC H sz
theorem i_up {k : Nat} {u : SX} {v : SY} (h : i_Rel k u v) : i_Rel (k + 5) u v := h
theorem bm_nlt0 {x : Int32} {n : Nat} (hn : n < 2 ^ 31) (h : nI n ≤ x) : ¬ x < 0 := by
  intro z
  rw [Int32.le_iff_toInt_le, nI_toInt hn] at h
  rw [Int32.lt_iff_toInt_lt, show (0 : Int32).toInt = 0 from by decide] at z
  omega
theorem bm_nle7 {x : Int32} (h : nI 8 ≤ x) : ¬ x ≤ 7 := fun z => absurd (Int32.le_trans h z) (by decide)
theorem bm_7lt {x : Int32} (h : nI 8 ≤ x) : 7 < x := Int32.not_le.mp (bm_nle7 h)
theorem bm_le7 {a : Nat} (h : a < 8) : nI a ≤ 7 := nI_le (b := 7) (by omega) (by decide)
theorem bm_n7lt {a : Nat} (h : a < 8) : ¬ 7 < nI a := nI_nlt (a := 7) (by omega) (by decide)
section
variable {T P R cN tN pN rN gN : Nat} {cm sr pk : Int32} {ar tc t0 t1 hX kd pl pf ps us fi rp rg r1 r2 sb gl rb pp pt hg pA pB pC pa ok rY st : Nat → Int32} {H sz : Nat → Nat}
theorem bm_mk {k : Nat} (h : bm_J T P R cN tN pN rN gN ar tc t0 t1 hX kd pl pf ps us fi rp rg r1 r2 pA pB pC H sz) : i_Rel k (nI T, nI P, nI R, nI cN, nI tN, nI pN, nI rN, cm, sr, nI gN, pk, ar, tc, t0, t1, hX, kd, pl, pf, ps, us, fi, rp, rg, r1, r2, sb, gl, rb, pp, pt) (nI T, nI P, nI R, nI cN, nI tN, nI pN, nI rN, cm, sr, nI gN, ar, tc, t0, t1, hg, kd, pA, pB, pC, us, rp, rg, r1, r2, sb, gl, pa, ok, rY, st) :=
  ⟨T, P, R, cN, tN, pN, rN, gN, cm, sr, pk, ar, tc, t0, t1, hX, kd, pl, pf, ps, us, fi, rp, rg, r1, r2, sb, gl, rb, pp, pt, hg, pA, pB, pC, pa, ok, rY, st, H, sz, rfl, rfl, h⟩
end
theorem i_vc_compile {k : Nat} {u : SX} {v : SY} (I : i_Rel k u v) (hk : k + 5 ≤ 2563) : wpX_compile (fun r u' => wpY_compile (fun r' v' => r' = r ∧ i_Rel (k + 5) u' v') v) u := by
  obtain ⟨T, P, R, cN, tN, pN, rN, gN, cm, sr, pk, ar, tc, t0, t1, hX, kd, pl, pf, ps, us, fi, rp, rg, r1, r2, sb, gl, rb, pp, pt, hg, pA, pB, pC, pa, ok, rY, st, H, sz, rfl, rfl, J⟩ := I
  exact br_c (fun z => br_t z ⟨rfl, bm_mk J⟩) (fun z => br_f z ⟨rfl, bm_mk J⟩)
theorem i_vc_lastRow {k : Nat} {u : SX} {v : SY} (I : i_Rel k u v) (hk : k + 5 ≤ 2563) : wpX_lastRow (fun r => wpY_lastRow (fun r' => r' = r ∧ i_Rel (k + 5) u v) v) u := by
  obtain ⟨T, P, R, cN, tN, pN, rN, gN, cm, sr, pk, ar, tc, t0, t1, hX, kd, pl, pf, ps, us, fi, rp, rg, r1, r2, sb, gl, rb, pp, pt, hg, pA, pB, pC, pa, ok, rY, st, H, sz, rfl, rfl, J⟩ := I
  exact ⟨rfl, bm_mk J⟩
theorem i_vc_guardLogLength {k : Nat} {u : SX} {v : SY} (I : i_Rel k u v) (hk : k + 5 ≤ 2563) : wpX_guardLogLength (fun r => wpY_guardLogLength (fun r' => r' = r ∧ i_Rel (k + 5) u v) v) u := by
  obtain ⟨T, P, R, cN, tN, pN, rN, gN, cm, sr, pk, ar, tc, t0, t1, hX, kd, pl, pf, ps, us, fi, rp, rg, r1, r2, sb, gl, rb, pp, pt, hg, pA, pB, pC, pa, ok, rY, st, H, sz, rfl, rfl, J⟩ := I
  exact ⟨rfl, bm_mk J⟩
theorem i_vc_binding {k : Nat} {u : SX} {v : SY} (I : i_Rel k u v) (hk : k + 5 ≤ 2563) (v1 : Int32) : wpX_binding (fun r => wpY_binding (fun r' => r' = r ∧ i_Rel (k + 5) u v) v v1) u v1 := by
  obtain ⟨T, P, R, cN, tN, pN, rN, gN, cm, sr, pk, ar, tc, t0, t1, hX, kd, pl, pf, ps, us, fi, rp, rg, r1, r2, sb, gl, rb, pp, pt, hg, pA, pB, pC, pa, ok, rY, st, H, sz, rfl, rfl, J⟩ := I
  unfold wpX_binding
  dsimp only
  rcases pk_ix v1 (n := 8) (by decide) with z | z | ⟨j, hj, rfl⟩
  · exact xx_var_f (Or.inl z) (br_t rfl (br_t z ⟨rfl, bm_mk J⟩))
  · exact xx_var_f (Or.inr z) (br_t rfl (br_f (bm_nlt0 (by decide) z) (br_f (bm_nle7 z) ⟨rfl, bm_mk J⟩)))
  · exact xx_var_t hj (br_f bm_n10 ⟨vp_in_nI hj (by decide), br_f (bm_nge (by omega)) (br_t (bm_le7 hj) ⟨vp_in_nI hj (by decide), rfl, bm_mk J⟩)⟩)
theorem i_vc_guardLogAt {k : Nat} {u : SX} {v : SY} (I : i_Rel k u v) (hk : k + 5 ≤ 2563) (v1 : Int32) : wpX_guardLogAt (fun r => wpY_guardLogAt (fun r' => r' = r ∧ i_Rel (k + 5) u v) v v1) u v1 := by
  obtain ⟨T, P, R, cN, tN, pN, rN, gN, cm, sr, pk, ar, tc, t0, t1, hX, kd, pl, pf, ps, us, fi, rp, rg, r1, r2, sb, gl, rb, pp, pt, hg, pA, pB, pC, pa, ok, rY, st, H, sz, rfl, rfl, J⟩ := I
  have hg8 : gN ≤ 8 := J.1.2.2.2.2.2.2.1
  rcases pk_ix v1 (n := gN) (by omega) with z | z | ⟨j, hj, rfl⟩
  · exact br_t z (br_t z ⟨rfl, bm_mk J⟩)
  · exact br_f (bm_nlt0 (by omega) z) (br_t z (br_f (bm_nlt0 (by omega) z) (br_f (Int32.not_lt.mpr z) ⟨rfl, bm_mk J⟩)))
  · exact br_f (bm_nge (by omega)) (br_f (nI_ge hj (by omega)) ⟨vp_in_nI (by omega) (by decide), br_f (bm_nge (by omega)) (br_t (nI_lt hj (by omega)) ⟨vp_in_nI (by omega) (by decide), rfl, bm_mk J⟩)⟩)
theorem i_vc_count {k : Nat} {u : SX} {v : SY} (I : i_Rel k u v) (hk : k + 5 ≤ 2563) (v1 : Int32) : wpX_count (fun r => wpY_count (fun r' => r' = r ∧ i_Rel (k + 5) u v) v v1) u v1 := by
  obtain ⟨T, P, R, cN, tN, pN, rN, gN, cm, sr, pk, ar, tc, t0, t1, hX, kd, pl, pf, ps, us, fi, rp, rg, r1, r2, sb, gl, rb, pp, pt, hg, pA, pB, pC, pa, ok, rY, st, H, sz, rfl, rfl, J⟩ := I
  by_cases h0 : v1 = 0
  · subst h0
    exact br_f (by decide) (br_f (by decide) (br_t rfl (br_t rfl ⟨rfl, bm_mk J⟩)))
  by_cases h1 : v1 = 1
  · subst h1
    exact br_f (by decide) (br_f (by decide) (br_f h0 (br_t rfl (br_f h0 (br_t rfl ⟨rfl, bm_mk J⟩)))))
  by_cases h2 : v1 = 2
  · subst h2
    exact br_f (by decide) (br_f (by decide) (br_f h0 (br_f h1 (br_t rfl (br_f h0 (br_f h1 (br_t rfl ⟨rfl, bm_mk J⟩)))))))
  by_cases h3 : v1 = 3
  · subst h3
    exact br_f (by decide) (br_f (by decide) (br_f h0 (br_f h1 (br_f h2 (br_t rfl (br_f h0 (br_f h1 (br_f h2 (br_t rfl ⟨rfl, bm_mk J⟩)))))))))
  by_cases h4 : v1 = 4
  · subst h4
    exact br_f (by decide) (br_f (by decide) (br_f h0 (br_f h1 (br_f h2 (br_f h3 (br_t rfl (br_c (fun z => br_f h0 (br_f h1 (br_f h2 (br_f h3 (br_t rfl (br_t z ⟨rfl, bm_mk J⟩)))))) (fun z => br_f h0 (br_f h1 (br_f h2 (br_f h3 (br_t rfl (br_f z ⟨rfl, bm_mk J⟩))))))))))))) 
  · have y := fun (w : Int32) (e : w = -1) => (br_f h0 (br_f h1 (br_f h2 (br_f h3 (br_f h4 ⟨e.symm, bm_mk J⟩)))) : wpY_count (fun r' => r' = w ∧ i_Rel (k + 5) (nI T, nI P, nI R, nI cN, nI tN, nI pN, nI rN, cm, sr, nI gN, pk, ar, tc, t0, t1, hX, kd, pl, pf, ps, us, fi, rp, rg, r1, r2, sb, gl, rb, pp, pt) (nI T, nI P, nI R, nI cN, nI tN, nI pN, nI rN, cm, sr, nI gN, ar, tc, t0, t1, hg, kd, pA, pB, pC, us, rp, rg, r1, r2, sb, gl, pa, ok, rY, st)) (nI T, nI P, nI R, nI cN, nI tN, nI pN, nI rN, cm, sr, nI gN, ar, tc, t0, t1, hg, kd, pA, pB, pC, us, rp, rg, r1, r2, sb, gl, pa, ok, rY, st) v1)
    refine br_c (fun _ => y _ rfl) (fun z => br_c (fun _ => y _ rfl) (fun z4 => ?_))
    rcases bm_k5 z (Int32.not_lt.mp z4) with e | e | e | e | e
    · exact absurd e h0
    · exact absurd e h1
    · exact absurd e h2
    · exact absurd e h3
    · exact absurd e h4
theorem i_vc_defCons {k : Nat} {u : SX} {v : SY} (I : i_Rel k u v) (hk : k + 5 ≤ 2563) (v1 : Int32) : wpX_defCons (fun r u' => wpY_defCons (fun r' v' => r' = r ∧ i_Rel (k + 5) u' v') v v1) u v1 := by
  obtain ⟨T, P, R, cN, tN, pN, rN, gN, cm, sr, pk, ar, tc, t0, t1, hX, kd, pl, pf, ps, us, fi, rp, rg, r1, r2, sb, gl, rb, pp, pt, hg, pA, pB, pC, pa, ok, rY, st, H, sz, rfl, rfl, J⟩ := I
  have hJ := J.1
  refine br_c (fun a => br_t a ⟨rfl, bm_mk J⟩) (fun a => br_c (fun b => br_c (fun c => br_f a (br_t b (br_t c ⟨rfl, bm_mk J⟩))) (fun c => br_c (fun d => br_f a (br_t b (br_f c (br_t d ⟨rfl, bm_mk J⟩)))) (fun d => br_c (fun e => ?_) (fun e => br_f a (br_t b (br_f c (br_f d (br_f e ⟨rfl, bm_mk J⟩)))))))) (fun b => br_f a (br_f b ⟨rfl, bm_mk J⟩)))
  have ht : tN = 0 := by
    by_cases z : tN = 0
    · exact z
    · exact absurd (nI_lt (a := 0) (b := tN) (by omega) (by omega)) a
  have hp : pN = 0 := by
    by_cases z : pN = 0
    · exact z
    · exact absurd b (nI_nle (by omega) (by omega))
  have hc : cN < 8 := by
    have : cN ≠ 8 := fun z => c (by rw [z]; rfl)
    omega
  subst ht
  subst hp
  have vi : vp_in (nI cN) 8 := vp_in_nI hc (by decide)
  refine ⟨vi, nm_r (bm_uq (by omega)) (nm_r (nI_1 cN) (br_f a (br_t b (br_f c (br_f d (br_t e ⟨vi, nm_r (bm_uq (by omega)) (nm_r (nI_1 cN) ⟨nI_pred cN, ?_⟩)⟩))))))⟩
  refine bm_mk ⟨⟨hJ.1, hJ.2.1, hJ.2.2.1, hJ.2.2.2.1, hJ.2.2.2.2.1, hJ.2.2.2.2.2.1, hJ.2.2.2.2.2.2.1, by omega⟩, ?_, bm_IP_0 (sz := sz) J.2.2.1.2.2.2.2.2.1, bm_IT_0 (H := H), J.2.2.2.2.1, J.2.2.2.2.2⟩
  intro i hi
  by_cases z : i = cN
  · rw [z, pk_us]
    exact bm_k3 d e
  · rw [pk_un z]
    exact J.2.1 i (by omega)
end
section
/-! results cleared; construction; reset; heights -/
section
variable {fT fP fR fC fN fQ fW cm sr fG pk : Int32} {ar tc t0 t1 hX kd pl pf ps us fi rp rg r1 r2 sb gl rb pp pt hg pA pB pC pa ok rY st : Nat → Int32} {H sz : Nat → Nat} {cN pN tN rN : Nat}
theorem xx_clr7 {post : SX → Prop} (h : post (fT, fP, fR, fC, fN, fQ, fW, cm, sr, 0, pk, ar, tc, t0, t1, hX, kd, pl, pf, ps, us, fi, rp, rg, r1, r2, bm_clr (-1) 8 sb, gl, rb, pp, pt)) : ∀ (d i n : Nat), i + d = 8 → d < n → wX_clearResults_7 post fT fP fR fC fN fQ fW cm sr fG pk n (nI i) ar tc t0 t1 hX kd pl pf ps us fi rp rg r1 r2 (bm_clr (-1) i sb) gl rb pp pt := by
  intro d
  induction d with
  | zero =>
    intro i n hi hn
    obtain ⟨m, rfl⟩ : ∃ m, n = m + 1 := ⟨n - 1, by omega⟩
    have e : i = 8 := by omega
    subst e
    exact br_t (nI_le (a := 8) (Nat.le_refl _) (by decide)) h
  | succ d ih =>
    intro i n hi hn
    obtain ⟨m, rfl⟩ : ∃ m, n = m + 1 := ⟨n - 1, by omega⟩
    exact br_f (nI_ge (b := 8) (by omega) (by decide)) ⟨vp_in_nI (by omega) (by decide), nm_r ((bm_uq (by omega)).trans bm_clr_s) (nm_r (nI_1 i) (ih (i + 1) m (by omega) (by omega)))⟩
theorem xx_clear {post : SX → Prop} (h : post (fT, fP, fR, fC, fN, fQ, fW, cm, (-1), 0, pk, ar, tc, t0, t1, hX, kd, pl, pf, ps, us, fi, rp, rg, r1, r2, bm_clr (-1) 8 sb, gl, rb, pp, pt)) : wpX_clearResults post (fT, fP, fR, fC, fN, fQ, fW, cm, sr, fG, pk, ar, tc, t0, t1, hX, kd, pl, pf, ps, us, fi, rp, rg, r1, r2, sb, gl, rb, pp, pt) := by
  have k := xx_clr7 (fG := fG) h 8 0 9 rfl (by decide)
  rw [bm_clr0] at k
  exact ⟨9, k⟩
theorem yy_clr7 {post : SY → Prop} (h : post (fT, fP, fR, fC, fN, fQ, fW, cm, sr, 0, ar, tc, t0, t1, hg, kd, pA, pB, pC, us, rp, rg, r1, r2, bm_clr (-1) 8 sb, gl, pa, ok, rY, st)) : ∀ (d i n : Nat), i + d = 8 → d < n → wY_clearResults_7 post fT fP fR fC fN fQ fW cm sr fG n (nI i) ar tc t0 t1 hg kd pA pB pC us rp rg r1 r2 (bm_clr (-1) i sb) gl pa ok rY st := by
  intro d
  induction d with
  | zero =>
    intro i n hi hn
    obtain ⟨m, rfl⟩ : ∃ m, n = m + 1 := ⟨n - 1, by omega⟩
    have e : i = 8 := by omega
    subst e
    exact br_t (nI_le (a := 8) (Nat.le_refl _) (by decide)) h
  | succ d ih =>
    intro i n hi hn
    obtain ⟨m, rfl⟩ : ∃ m, n = m + 1 := ⟨n - 1, by omega⟩
    exact br_f (nI_ge (b := 8) (by omega) (by decide)) ⟨vp_in_nI (by omega) (by decide), nm_r ((bm_uq (by omega)).trans bm_clr_s) (nm_r (nI_1 i) (ih (i + 1) m (by omega) (by omega)))⟩
theorem yy_clear {post : SY → Prop} (h : post (fT, fP, fR, fC, fN, fQ, fW, cm, (-1), 0, ar, tc, t0, t1, hg, kd, pA, pB, pC, us, rp, rg, r1, r2, bm_clr (-1) 8 sb, gl, pa, ok, rY, st)) : wpY_clearResults post (fT, fP, fR, fC, fN, fQ, fW, cm, sr, fG, ar, tc, t0, t1, hg, kd, pA, pB, pC, us, rp, rg, r1, r2, sb, gl, pa, ok, rY, st) := by
  have k := yy_clr7 (fG := fG) h 8 0 9 rfl (by decide)
  rw [bm_clr0] at k
  exact ⟨9, k⟩
/-- the reference's heights -/
theorem yy_60n {post : SY → Prop} {J2 : Int32 → (Nat → Int32) → (Nat → Int32) → (Nat → Int32) → (Nat → Int32) → (Nat → Int32) → (Nat → Int32) → (Nat → Int32) → (Nat → Int32) → (Nat → Int32) → (Nat → Int32) → (Nat → Int32) → (Nat → Int32) → (Nat → Int32) → (Nat → Int32) → (Nat → Int32) → (Nat → Int32) → (Nat → Int32) → (Nat → Int32) → (Nat → Int32) → (Nat → Int32) → Prop} {i : Nat} {x2 x3 : Int32} (hi : i < 64) (h2 : ¬ x2 = 2)
    (h : J2 (nI (i + 1)) ar tc t0 t1 (upd hg i x3) kd pA pB pC us rp rg r1 r2 sb gl pa ok rY st) : wY_computeHeights_60 post J2 (nI i) x2 x3 fT fP fR fC fN fQ fW cm sr fG ar tc t0 t1 hg kd pA pB pC us rp rg r1 r2 sb gl pa ok rY st :=
  br_f h2 ⟨vp_in_nI hi (by decide), nm_r (bm_uq (by omega)) (nm_r (nI_1 i) h)⟩
theorem yy_60s {post : SY → Prop} {J2 : Int32 → (Nat → Int32) → (Nat → Int32) → (Nat → Int32) → (Nat → Int32) → (Nat → Int32) → (Nat → Int32) → (Nat → Int32) → (Nat → Int32) → (Nat → Int32) → (Nat → Int32) → (Nat → Int32) → (Nat → Int32) → (Nat → Int32) → (Nat → Int32) → (Nat → Int32) → (Nat → Int32) → (Nat → Int32) → (Nat → Int32) → (Nat → Int32) → (Nat → Int32) → Prop} {i k a b : Nat} (hi : i < 64) (hk : k < 64) (ek : t1 i = nI k) (eb : hg k = nI b) (ha : a < 2 ^ 20) (hb : b < 2 ^ 20)
    (h : J2 (nI (i + 1)) ar tc t0 t1 (upd hg i (nI (if a < b then b + 1 else a + 1))) kd pA pB pC us rp rg r1 r2 sb gl pa ok rY st) : wY_computeHeights_60 post J2 (nI i) 2 (nI (a + 1)) fT fP fR fC fN fQ fW cm sr fG ar tc t0 t1 hg kd pA pB pC us rp rg r1 r2 sb gl pa ok rY st := by
  have vi : vp_in (nI i) 64 := vp_in_nI hi (by decide)
  have ci : (nI i).toNatClampNeg = i := nI_clamp (by omega)
  have ck : (nI k).toNatClampNeg = k := nI_clamp (by omega)
  have e1 : t1 (nI i).toNatClampNeg = nI k := by rw [ci, ek]
  have e2 : hg (t1 (nI i).toNatClampNeg).toNatClampNeg + 1 = nI (b + 1) := by rw [e1, ck, eb, nI_1]
  have vk : vp_in (t1 (nI i).toNatClampNeg) 64 := by
    rw [e1]
    exact vp_in_nI hk (by decide)
  refine br_t rfl ⟨vi, vk, ?_⟩
  by_cases z : a < b
  · rw [if_pos z] at h
    refine br_f ?_ ⟨vi, vk, nm_r e2 ⟨vi, nm_r (bm_uq (by omega)) (nm_r (nI_1 i) h)⟩⟩
    rw [e2]
    exact nI_ge (by omega) (by omega)
  · rw [if_neg z] at h
    refine br_t ?_ ⟨vi, nm_r (bm_uq (by omega)) (nm_r (nI_1 i) h)⟩
    rw [e2]
    exact nI_le (by omega) (by omega)
theorem bm_hs {hg hX : Nat → Int32} {i : Nat} {v : Int32} (h : ∀ j, j < i → hg j = hX j) (hv : hX i = v) : ∀ j, j < i + 1 → upd hg i v j = hX j := by
  intro j hj
  by_cases e : j = i
  · rw [e, pk_us, hv]
  · rw [pk_un e]
    exact h j (by omega)
theorem yy_h2 {post : SY → Prop} (hcN : cN ≤ 8) (hT : bm_IT ar tc t0 t1 hX H cN tN) (h : ∀ hg', (∀ i, i < tN → hg' i = hX i) → post (fT, fP, fR, fC, nI tN, fQ, fW, cm, sr, fG, ar, tc, t0, t1, hg', kd, pA, pB, pC, us, rp, rg, r1, r2, sb, gl, pa, ok, rY, st)) : ∀ (d i n : Nat) (hg : Nat → Int32), i + d = tN → d < n → (∀ j, j < i → hg j = hX j) → wY_computeHeights_2 post fT fP fR fC (nI tN) fQ fW cm sr fG n (nI i) ar tc t0 t1 hg kd pA pB pC us rp rg r1 r2 sb gl pa ok rY st := by
  obtain ⟨ht6, hTm⟩ := hT
  intro d
  induction d with
  | zero =>
    intro i n hg hi hn hh
    obtain ⟨m, rfl⟩ : ∃ m, n = m + 1 := ⟨n - 1, by omega⟩
    exact br_t (nI_le (by omega) (by omega)) (h hg (fun j hj => hh j (by omega)))
  | succ d ih =>
    intro i n hg hi hn hh
    obtain ⟨m, rfl⟩ : ∃ m, n = m + 1 := ⟨n - 1, by omega⟩
    obtain ⟨c, hc, ec, eh, hh1, hh2, hk⟩ := hTm i (by omega)
    have vi : vp_in (nI i) 64 := vp_in_nI (by omega) (by decide)
    have ci : (nI i).toNatClampNeg = i := nI_clamp (by omega)
    have cc : (nI c).toNatClampNeg = c := nI_clamp (by omega)
    have e1 : tc (nI i).toNatClampNeg = nI c := by rw [ci, ec]
    have vc : vp_in (tc (nI i).toNatClampNeg) 8 := by
      rw [e1]
      exact vp_in_nI (by omega) (by decide)
    have ea : ∀ A, ar c = A → ar (tc (nI i).toNatClampNeg).toNatClampNeg = A := by
      intro A e
      rw [e1, cc, e]
    rcases hk with ⟨b1, b2, b3, b4⟩ | ⟨j, b1, b2, b3, b4, b5⟩ | ⟨j, k, b1, b2, b3, b4, b5, b6⟩
    · refine br_f (nI_ge (by omega) (by omega)) ⟨vi, vc, nm_r (ea 0 b1) (br_t (by decide) (yy_60n (by omega) (by decide) (ih (i + 1) m _ (by omega) (by omega) (bm_hs hh ?_))))⟩
      rw [eh, b4]
      rfl
    · have cj : (nI j).toNatClampNeg = j := nI_clamp (by omega)
      have f1 : t0 (nI i).toNatClampNeg = nI j := by rw [ci, b4]
      have vj : vp_in (t0 (nI i).toNatClampNeg) 64 := by
        rw [f1]
        exact vp_in_nI (by omega) (by decide)
      obtain ⟨_, _, _, ej, hj1, hj2, _⟩ := hTm j (by omega)
      have f2 : hg (t0 (nI i).toNatClampNeg).toNatClampNeg + 1 = nI (H j + 1) := by rw [f1, cj, hh j b3, ej, nI_1]
      refine br_f (nI_ge (by omega) (by omega)) ⟨vi, vc, nm_r (ea 1 b1) (br_f (by decide) ⟨vi, vj, br_f ?_ ⟨vi, vj, nm_r f2 (yy_60n (by omega) (by decide) (ih (i + 1) m _ (by omega) (by omega) (bm_hs hh ?_)))⟩⟩)⟩
      · rw [f2]
        exact nI_ge (a := 1) (by omega) (by omega)
      · rw [eh, b5]
    · have cj : (nI j).toNatClampNeg = j := nI_clamp (by omega)
      have f1 : t0 (nI i).toNatClampNeg = nI j := by rw [ci, b4]
      have vj : vp_in (t0 (nI i).toNatClampNeg) 64 := by
        rw [f1]
        exact vp_in_nI (by omega) (by decide)
      obtain ⟨_, _, _, ej, hj1, hj2, _⟩ := hTm j (by omega)
      obtain ⟨_, _, _, ek, hk1, hk2, _⟩ := hTm k (by omega)
      have f2 : hg (t0 (nI i).toNatClampNeg).toNatClampNeg + 1 = nI (H j + 1) := by rw [f1, cj, hh j b2, ej, nI_1]
      refine br_f (nI_ge (by omega) (by omega)) ⟨vi, vc, nm_r (ea 2 b1) (br_f (by decide) ⟨vi, vj, br_f ?_ ⟨vi, vj, nm_r f2 (yy_60s (k := k) (a := H j) (b := H k) (by omega) (by omega) b5 ((hh k b3).trans ek) (by omega) (by omega) (ih (i + 1) m _ (by omega) (by omega) (bm_hs hh ?_)))⟩⟩)⟩
      · rw [f2]
        exact nI_ge (a := 1) (by omega) (by omega)
      · rw [eh, b6]
        split <;> rfl
theorem yy_heights {post : SY → Prop} (hcN : cN ≤ 8) (hT : bm_IT ar tc t0 t1 hX H cN tN) (h : ∀ hg', (∀ i, i < tN → hg' i = hX i) → post (fT, fP, fR, fC, nI tN, fQ, fW, cm, sr, fG, ar, tc, t0, t1, hg', kd, pA, pB, pC, us, rp, rg, r1, r2, sb, gl, pa, ok, rY, st)) : wpY_computeHeights post (fT, fP, fR, fC, nI tN, fQ, fW, cm, sr, fG, ar, tc, t0, t1, hg, kd, pA, pB, pC, us, rp, rg, r1, r2, sb, gl, pa, ok, rY, st) :=
  ⟨tN + 1, yy_h2 hcN hT h tN 0 (tN + 1) hg (by omega) (by omega) (fun _ hj => absurd hj (Nat.not_lt_zero _))⟩
end
theorem bm_clamp (k : Int32) (lo hi : Nat) (h : lo ≤ hi) (hh : hi < 2 ^ 31) : ∃ T : Nat, lo ≤ T ∧ T ≤ hi ∧ ∀ A : Int32 → Prop, A (nI T) → ((nI lo ≤ k → ((k ≤ nI hi → A k) ∧ (¬ k ≤ nI hi → A (nI hi)))) ∧ (¬ nI lo ≤ k → A (nI lo))) := by
  by_cases z : nI lo ≤ k
  · obtain ⟨j, hj, rfl⟩ := nI_of (bm_nlt0 (by omega) z)
    have z' := (nI_leI (by omega) hj).mp z
    by_cases y : j ≤ hi
    · exact ⟨j, z', y, fun A hA => br_t z (br_t (nI_le y hh) hA)⟩
    · exact ⟨hi, h, Nat.le_refl _, fun A hA => br_t z (br_f (nI_ge (by omega) hj) hA)⟩
  · exact ⟨lo, Nat.le_refl _, h, fun A hA => br_f z hA⟩
theorem i_vc0 (k0 : Int32) (k1 : Int32) (k2 : Int32) : wpX_init (fun u => wpY_init (fun v => i_Rel 3 u v) k0 k1 k2) k0 k1 k2 := by
  obtain ⟨T, hT1, hT2, cT⟩ := bm_clamp k0 8 64 (by decide) (by decide)
  obtain ⟨P, hP1, hP2, cP⟩ := bm_clamp k1 8 64 (by decide) (by decide)
  obtain ⟨R, hR1, hR2, cR⟩ := bm_clamp k2 1 8 (by decide) (by decide)
  have xT : ∀ A : Int32 → Prop, A (nI T) → wpX_clamp A k0 8 64 := cT
  have xP : ∀ A : Int32 → Prop, A (nI P) → wpX_clamp A k1 8 64 := cP
  have xR : ∀ A : Int32 → Prop, A (nI R) → wpX_clamp A k2 1 8 := cR
  unfold wpX_init
  refine xT _ ?_
  refine xP _ ?_
  refine xR _ ?_
  refine xx_clear ?_
  dsimp only
  refine cT (fun z => wY_init_189 _ k1 k2 z 0 0 0 0 0 0 0 0 0 0 (fun _ => 0) (fun _ => 0) (fun _ => 0) (fun _ => 0) (fun _ => 0) (fun _ => 0) (fun _ => 0) (fun _ => 0) (fun _ => 0) (fun _ => 0) (fun _ => 0) (fun _ => 0) (fun _ => 0) (fun _ => 0) (fun _ => 0) (fun _ => 0) (fun _ => 0) (fun _ => 0) (fun _ => 0) (fun _ => 0)) ?_
  refine cP (fun z => wY_init_216 _ k2 z (nI T) 0 0 0 0 0 0 0 0 0 (fun _ => 0) (fun _ => 0) (fun _ => 0) (fun _ => 0) (fun _ => 0) (fun _ => 0) (fun _ => 0) (fun _ => 0) (fun _ => 0) (fun _ => 0) (fun _ => 0) (fun _ => 0) (fun _ => 0) (fun _ => 0) (fun _ => 0) (fun _ => 0) (fun _ => 0) (fun _ => 0) (fun _ => 0) (fun _ => 0)) ?_
  refine cR (fun z => wY_init_241 _ z (nI T) (nI P) 0 0 0 0 0 0 0 0 (fun _ => 0) (fun _ => 0) (fun _ => 0) (fun _ => 0) (fun _ => 0) (fun _ => 0) (fun _ => 0) (fun _ => 0) (fun _ => 0) (fun _ => 0) (fun _ => 0) (fun _ => 0) (fun _ => 0) (fun _ => 0) (fun _ => 0) (fun _ => 0) (fun _ => 0) (fun _ => 0) (fun _ => 0) (fun _ => 0)) ?_
  unfold wY_init_241
  refine yy_clear ?_
  refine bm_mk (T := T) (P := P) (R := R) (cN := 0) (tN := 0) (pN := 0) (rN := 0) (gN := 0) (H := fun _ => 0) (sz := fun _ => 0) ⟨⟨by omega, hT2, by omega, hP2, by omega, hR2, by omega, by omega⟩, fun _ h => absurd h (Nat.not_lt_zero _), bm_IP_0 (fun _ => Or.inl rfl), bm_IT_0, bm_IF_0 (fun _ => Or.inl rfl), bm_IR_0⟩
theorem i_vc_reset {k : Nat} {u : SX} {v : SY} (I : i_Rel k u v) (hk : k + 5 ≤ 2563) : wpX_reset (fun u' => wpY_reset (fun v' => i_Rel (k + 5) u' v') v) u := by
  obtain ⟨T, P, R, cN, tN, pN, rN, gN, cm, sr, pk, ar, tc, t0, t1, hX, kd, pl, pf, ps, us, fi, rp, rg, r1, r2, sb, gl, rb, pp, pt, hg, pA, pB, pC, pa, ok, rY, st, H, sz, rfl, rfl, J⟩ := I
  have hJ := J.1
  unfold wpX_reset wpY_reset
  dsimp only
  refine xx_clear ?_
  refine yy_clear ?_
  exact bm_mk (T := T) (P := P) (R := R) (cN := cN) (tN := tN) (pN := 0) (rN := 0) (gN := 0) (H := H) (sz := sz) ⟨⟨hJ.1, hJ.2.1, by omega, hJ.2.2.2.1, by omega, hJ.2.2.2.2.2.1, by omega, hJ.2.2.2.2.2.2.2⟩, J.2.1, bm_IP_0 J.2.2.1.2.2.2.2.2.1, J.2.2.2.1, bm_IF_0 J.2.2.2.2.1.1, bm_IR_0⟩
theorem i_vc_termHeight {k : Nat} {u : SX} {v : SY} (I : i_Rel k u v) (hk : k + 5 ≤ 2563) (v1 : Int32) : wpX_termHeight (fun r => wpY_termHeight (fun r' v' => r' = r ∧ i_Rel (k + 5) u v') v v1) u v1 := by
  obtain ⟨T, P, R, cN, tN, pN, rN, gN, cm, sr, pk, ar, tc, t0, t1, hX, kd, pl, pf, ps, us, fi, rp, rg, r1, r2, sb, gl, rb, pp, pt, hg, pA, pB, pC, pa, ok, rY, st, H, sz, rfl, rfl, J⟩ := I
  have hJ := J.1
  have hT := J.2.2.2.1
  have h6 := hT.1
  unfold wpX_termHeight
  dsimp only
  rcases pk_ix v1 (n := tN) (by omega) with z | z | ⟨j, hj, rfl⟩
  · exact xx_term_f (Or.inl z) (br_t rfl (br_t z ⟨rfl, bm_mk J⟩))
  · exact xx_term_f (Or.inr z) (br_t rfl (br_f (bm_nlt0 (by omega) z) (br_f (Int32.not_lt.mpr z) ⟨rfl, bm_mk J⟩)))
  · refine xx_term_t hj h6 (br_f bm_n10 ⟨vp_in_nI (by omega) (by decide), br_f (bm_nge (by omega)) (br_t (nI_lt hj (by omega)) (yy_heights hJ.2.2.2.2.2.2.2 hT (fun hg' hh => ⟨vp_in_nI (by omega) (by decide), ?_, bm_mk J⟩)))⟩)
    rw [nI_clamp (by omega)]
    exact hh j hj
end
section
/-! the owed statement of term -/
theorem pk_least (P : Nat → Prop) (h : ∃ k, P k) : ∃ k, P k ∧ ∀ j, j < k → ¬ P j := by
  obtain ⟨k, hk⟩ := h
  induction k using Nat.strongRecOn with
  | ind k ih =>
    by_cases e : ∃ j, j < k ∧ P j
    · obtain ⟨j, hj, pj⟩ := e
      exact ih j hj pj
    · exact ⟨k, hk, fun j hj pj => e ⟨j, hj, pj⟩⟩
theorem bm_Tm_ar {ar tc t0 t1 hX : Nat → Int32} {H : Nat → Nat} {cN i c : Nat} (hcN : cN ≤ 8) (hc : c < cN) (h : bm_Tm ar tc t0 t1 hX H cN i) (e : tc i = nI c) : (ar c = 0 → t0 i = -1 ∧ t1 i = -1) ∧ (ar c = 1 → t1 i = -1) := by
  obtain ⟨d, hd, td, _, _, _, hk⟩ := h
  have := bm_ar hc hd hcN (e.symm.trans td)
  subst this
  rcases hk with ⟨b1, b2, b3, b4⟩ | ⟨j, b1, b2, b3, b4, b5⟩ | ⟨j, k, b1, b2, b3, b4, b5, b6⟩
  · exact ⟨fun _ => ⟨b2, b3⟩, fun _ => b3⟩
  · exact ⟨fun z => absurd (b1.symm.trans z) (by decide), fun _ => b2⟩
  · exact ⟨fun z => absurd (b1.symm.trans z) (by decide), fun z => absurd (b1.symm.trans z) (by decide)⟩
section
variable {fT fP fR fC fN fQ fW cm sr fG pk : Int32} {ar tc t0 t1 hX kd pl pf ps us fi rp rg r1 r2 sb gl rb pp pt hg pA pB pC pa ok rY st : Nat → Int32} {H sz : Nat → Nat} {cN pN tN rN c : Nat}
theorem xx_t0 {post : Int32 → SX → Prop} {p1 p2 : Int32} (hc : c < cN) (h8 : cN ≤ 8) (ea : ar c = 0) (h : wX_term_86 post (nI c) (-1) (-1) fT fP fR (nI cN) (nI tN) fQ fW cm sr fG pk ar tc t0 t1 hX kd pl pf ps us fi rp rg r1 r2 sb gl rb pp pt) : wpX_term post (fT, fP, fR, nI cN, nI tN, fQ, fW, cm, sr, fG, pk, ar, tc, t0, t1, hX, kd, pl, pf, ps, us, fi, rp, rg, r1, r2, sb, gl, rb, pp, pt) (nI c) p1 p2 := by
  have vc : vp_in (nI c) 8 := vp_in_nI (by omega) (by decide)
  have e : ar (nI c).toNatClampNeg = 0 := by rw [nI_clamp (by omega), ea]
  unfold wpX_term
  dsimp only
  exact xx_cons_t hc h8 (br_f bm_n10 ⟨vc, br_t (by rw [e]; decide) ⟨vc, br_f (by rw [e]; decide) ⟨vc, br_t (by rw [e]; decide) ⟨vc, br_f (by rw [e]; decide) h⟩⟩⟩⟩)
theorem xx_t1 {post : Int32 → SX → Prop} {p2 : Int32} {j : Nat} (hc : c < cN) (h8 : cN ≤ 8) (h6 : tN ≤ 64) (ea : ar c = 1) (hj : j < tN) (h : wX_term_86 post (nI c) (nI j) (-1) fT fP fR (nI cN) (nI tN) fQ fW cm sr fG pk ar tc t0 t1 hX kd pl pf ps us fi rp rg r1 r2 sb gl rb pp pt) : wpX_term post (fT, fP, fR, nI cN, nI tN, fQ, fW, cm, sr, fG, pk, ar, tc, t0, t1, hX, kd, pl, pf, ps, us, fi, rp, rg, r1, r2, sb, gl, rb, pp, pt) (nI c) (nI j) p2 := by
  have vc : vp_in (nI c) 8 := vp_in_nI (by omega) (by decide)
  have e : ar (nI c).toNatClampNeg = 1 := by rw [nI_clamp (by omega), ea]
  unfold wpX_term
  dsimp only
  exact xx_cons_t hc h8 (br_f bm_n10 ⟨vc, br_f (by rw [e]; decide) ⟨vc, br_f (by rw [e]; decide) ⟨vc, br_f (by rw [e]; decide) (xx_term_t hj h6 (br_f bm_n10 ⟨vc, br_f (by rw [e]; decide) h⟩))⟩⟩⟩)
theorem xx_t1b {post : Int32 → SX → Prop} {p1 p2 : Int32} (hc : c < cN) (h8 : cN ≤ 8) (ea : ar c = 1) (hb : p1 < 0 ∨ nI tN ≤ p1) (h : post (-1) (fT, fP, fR, nI cN, nI tN, fQ, fW, cm, sr, fG, pk, ar, tc, t0, t1, hX, kd, pl, pf, ps, us, fi, rp, rg, r1, r2, sb, gl, rb, pp, pt)) : wpX_term post (fT, fP, fR, nI cN, nI tN, fQ, fW, cm, sr, fG, pk, ar, tc, t0, t1, hX, kd, pl, pf, ps, us, fi, rp, rg, r1, r2, sb, gl, rb, pp, pt) (nI c) p1 p2 := by
  have vc : vp_in (nI c) 8 := vp_in_nI (by omega) (by decide)
  have e : ar (nI c).toNatClampNeg = 1 := by rw [nI_clamp (by omega), ea]
  unfold wpX_term
  dsimp only
  exact xx_cons_t hc h8 (br_f bm_n10 ⟨vc, br_f (by rw [e]; decide) ⟨vc, br_f (by rw [e]; decide) ⟨vc, br_f (by rw [e]; decide) (xx_term_f hb (br_t rfl h))⟩⟩⟩)
theorem xx_t2 {post : Int32 → SX → Prop} {j k : Nat} (hc : c < cN) (h8 : cN ≤ 8) (h6 : tN ≤ 64) (ea : ar c = 2) (hj : j < tN) (hk : k < tN) (h : wX_term_86 post (nI c) (nI j) (nI k) fT fP fR (nI cN) (nI tN) fQ fW cm sr fG pk ar tc t0 t1 hX kd pl pf ps us fi rp rg r1 r2 sb gl rb pp pt) : wpX_term post (fT, fP, fR, nI cN, nI tN, fQ, fW, cm, sr, fG, pk, ar, tc, t0, t1, hX, kd, pl, pf, ps, us, fi, rp, rg, r1, r2, sb, gl, rb, pp, pt) (nI c) (nI j) (nI k) := by
  have vc : vp_in (nI c) 8 := vp_in_nI (by omega) (by decide)
  have e : ar (nI c).toNatClampNeg = 2 := by rw [nI_clamp (by omega), ea]
  unfold wpX_term
  dsimp only
  exact xx_cons_t hc h8 (br_f bm_n10 ⟨vc, br_f (by rw [e]; decide) ⟨vc, br_t e ⟨vc, br_f (by rw [e]; decide) (xx_term_t hj h6 (br_f bm_n10 ⟨vc, br_t e (xx_term_t hk h6 (br_f bm_n10 h))⟩))⟩⟩⟩)
theorem xx_t2b {post : Int32 → SX → Prop} {p1 p2 : Int32} (hc : c < cN) (h8 : cN ≤ 8) (ea : ar c = 2) (hb : p1 < 0 ∨ nI tN ≤ p1) (h : post (-1) (fT, fP, fR, nI cN, nI tN, fQ, fW, cm, sr, fG, pk, ar, tc, t0, t1, hX, kd, pl, pf, ps, us, fi, rp, rg, r1, r2, sb, gl, rb, pp, pt)) : wpX_term post (fT, fP, fR, nI cN, nI tN, fQ, fW, cm, sr, fG, pk, ar, tc, t0, t1, hX, kd, pl, pf, ps, us, fi, rp, rg, r1, r2, sb, gl, rb, pp, pt) (nI c) p1 p2 := by
  have vc : vp_in (nI c) 8 := vp_in_nI (by omega) (by decide)
  have e : ar (nI c).toNatClampNeg = 2 := by rw [nI_clamp (by omega), ea]
  unfold wpX_term
  dsimp only
  exact xx_cons_t hc h8 (br_f bm_n10 ⟨vc, br_f (by rw [e]; decide) ⟨vc, br_t e ⟨vc, br_f (by rw [e]; decide) (xx_term_f hb (br_t rfl h))⟩⟩⟩)
theorem xx_t2c {post : Int32 → SX → Prop} {p2 : Int32} {j : Nat} (hc : c < cN) (h8 : cN ≤ 8) (h6 : tN ≤ 64) (ea : ar c = 2) (hj : j < tN) (hb : p2 < 0 ∨ nI tN ≤ p2) (h : post (-1) (fT, fP, fR, nI cN, nI tN, fQ, fW, cm, sr, fG, pk, ar, tc, t0, t1, hX, kd, pl, pf, ps, us, fi, rp, rg, r1, r2, sb, gl, rb, pp, pt)) : wpX_term post (fT, fP, fR, nI cN, nI tN, fQ, fW, cm, sr, fG, pk, ar, tc, t0, t1, hX, kd, pl, pf, ps, us, fi, rp, rg, r1, r2, sb, gl, rb, pp, pt) (nI c) (nI j) p2 := by
  have vc : vp_in (nI c) 8 := vp_in_nI (by omega) (by decide)
  have e : ar (nI c).toNatClampNeg = 2 := by rw [nI_clamp (by omega), ea]
  unfold wpX_term
  dsimp only
  exact xx_cons_t hc h8 (br_f bm_n10 ⟨vc, br_f (by rw [e]; decide) ⟨vc, br_t e ⟨vc, br_f (by rw [e]; decide) (xx_term_t hj h6 (br_f bm_n10 ⟨vc, br_t e (xx_term_f hb (br_t rfl h))⟩))⟩⟩⟩)
theorem yy_t0 {post : Int32 → SY → Prop} {p1 p2 : Int32} (hc : c < cN) (h8 : cN ≤ 8) (ea : ar c = 0) (h : ∃ n, wY_term_65 post (nI c) p1 p2 0 fT fP fR (nI cN) (nI tN) fQ fW cm sr fG ar tc t0 t1 hg kd pA pB pC us rp rg r1 r2 sb gl pa ok rY st n 0) : wpY_term post (fT, fP, fR, nI cN, nI tN, fQ, fW, cm, sr, fG, ar, tc, t0, t1, hg, kd, pA, pB, pC, us, rp, rg, r1, r2, sb, gl, pa, ok, rY, st) (nI c) p1 p2 :=
  br_f (bm_nge (by omega)) (br_t (nI_lt hc (by omega)) ⟨vp_in_nI (by omega) (by decide), nm_r ((congrArg ar (nI_clamp (by omega))).trans ea) (br_t (by decide) (br_f (by decide) h))⟩)
theorem yy_t1 {post : Int32 → SY → Prop} {p2 : Int32} {j : Nat} (hc : c < cN) (h8 : cN ≤ 8) (h6 : tN ≤ 64) (ea : ar c = 1) (hj : j < tN) (h : ∃ n, wY_term_65 post (nI c) (nI j) p2 1 fT fP fR (nI cN) (nI tN) fQ fW cm sr fG ar tc t0 t1 hg kd pA pB pC us rp rg r1 r2 sb gl pa ok rY st n 0) : wpY_term post (fT, fP, fR, nI cN, nI tN, fQ, fW, cm, sr, fG, ar, tc, t0, t1, hg, kd, pA, pB, pC, us, rp, rg, r1, r2, sb, gl, pa, ok, rY, st) (nI c) (nI j) p2 :=
  br_f (bm_nge (by omega)) (br_t (nI_lt hc (by omega)) ⟨vp_in_nI (by omega) (by decide), nm_r ((congrArg ar (nI_clamp (by omega))).trans ea) (br_f (by decide) (br_f (bm_nge (by omega)) (br_t (nI_lt hj (by omega)) (br_f (by decide) h))))⟩)
theorem yy_t2 {post : Int32 → SY → Prop} {j k : Nat} (hc : c < cN) (h8 : cN ≤ 8) (h6 : tN ≤ 64) (ea : ar c = 2) (hj : j < tN) (hk : k < tN) (h : ∃ n, wY_term_65 post (nI c) (nI j) (nI k) 2 fT fP fR (nI cN) (nI tN) fQ fW cm sr fG ar tc t0 t1 hg kd pA pB pC us rp rg r1 r2 sb gl pa ok rY st n 0) : wpY_term post (fT, fP, fR, nI cN, nI tN, fQ, fW, cm, sr, fG, ar, tc, t0, t1, hg, kd, pA, pB, pC, us, rp, rg, r1, r2, sb, gl, pa, ok, rY, st) (nI c) (nI j) (nI k) :=
  br_f (bm_nge (by omega)) (br_t (nI_lt hc (by omega)) ⟨vp_in_nI (by omega) (by decide), nm_r ((congrArg ar (nI_clamp (by omega))).trans ea) (br_f (by decide) (br_f (bm_nge (by omega)) (br_t (nI_lt hj (by omega)) (br_t rfl (br_f (bm_nge (by omega)) (br_t (nI_lt hk (by omega)) h))))))⟩)
theorem yy_tb {post : Int32 → SY → Prop} {p1 p2 A : Int32} (hc : c < cN) (h8 : cN ≤ 8) (h6 : tN ≤ 64) (ea : ar c = A) (hA : ¬ A < 1) (hb : p1 < 0 ∨ nI tN ≤ p1) (h : post (-1) (fT, fP, fR, nI cN, nI tN, fQ, fW, cm, sr, fG, ar, tc, t0, t1, hg, kd, pA, pB, pC, us, rp, rg, r1, r2, sb, gl, pa, ok, rY, st)) : wpY_term post (fT, fP, fR, nI cN, nI tN, fQ, fW, cm, sr, fG, ar, tc, t0, t1, hg, kd, pA, pB, pC, us, rp, rg, r1, r2, sb, gl, pa, ok, rY, st) (nI c) p1 p2 :=
  br_f (bm_nge (by omega)) (br_t (nI_lt hc (by omega)) ⟨vp_in_nI (by omega) (by decide), nm_r ((congrArg ar (nI_clamp (by omega))).trans ea) (br_f hA (br_c (fun _ => h) (fun z => br_f (Int32.not_lt.mpr (hb.resolve_left z)) h)))⟩)
theorem yy_tc {post : Int32 → SY → Prop} {p2 : Int32} {j : Nat} (hc : c < cN) (h8 : cN ≤ 8) (h6 : tN ≤ 64) (ea : ar c = 2) (hj : j < tN) (hb : p2 < 0 ∨ nI tN ≤ p2) (h : post (-1) (fT, fP, fR, nI cN, nI tN, fQ, fW, cm, sr, fG, ar, tc, t0, t1, hg, kd, pA, pB, pC, us, rp, rg, r1, r2, sb, gl, pa, ok, rY, st)) : wpY_term post (fT, fP, fR, nI cN, nI tN, fQ, fW, cm, sr, fG, ar, tc, t0, t1, hg, kd, pA, pB, pC, us, rp, rg, r1, r2, sb, gl, pa, ok, rY, st) (nI c) (nI j) p2 :=
  br_f (bm_nge (by omega)) (br_t (nI_lt hc (by omega)) ⟨vp_in_nI (by omega) (by decide), nm_r ((congrArg ar (nI_clamp (by omega))).trans ea) (br_f (by decide) (br_f (bm_nge (by omega)) (br_t (nI_lt hj (by omega)) (br_t rfl (br_c (fun _ => h) (fun z => br_f (Int32.not_lt.mpr (hb.resolve_left z)) h))))))⟩)
theorem yy_store {post : Int32 → SY → Prop} {f s x2 x3 A k : Int32} (h6 : tN < 64) (hf : (A < 1 ∧ f = -1) ∨ (¬ A < 1 ∧ f = x2)) (hs : (A = 2 ∧ s = x3) ∨ (¬ A = 2 ∧ s = -1))
    (h : post (nI (tN + 1) - 1) (fT, fP, fR, fC, nI (tN + 1), fQ, fW, cm, sr, fG, ar, upd tc tN k, upd t0 tN f, upd t1 tN s, hg, kd, pA, pB, pC, us, rp, rg, r1, r2, sb, gl, pa, ok, rY, st)) :
    ((A < 1 → wY_term_170 post x3 A (-1) (nI tN) fT fP fR fC (nI tN) fQ fW cm sr fG ar (upd tc tN k) t0 t1 hg kd pA pB pC us rp rg r1 r2 sb gl pa ok rY st) ∧ (¬ A < 1 → wY_term_170 post x3 A x2 (nI tN) fT fP fR fC (nI tN) fQ fW cm sr fG ar (upd tc tN k) t0 t1 hg kd pA pB pC us rp rg r1 r2 sb gl pa ok rY st)) := by
  have vi : vp_in (nI tN) 64 := vp_in_nI h6 (by decide)
  have K : wY_term_170 post x3 A f (nI tN) fT fP fR fC (nI tN) fQ fW cm sr fG ar (upd tc tN k) t0 t1 hg kd pA pB pC us rp rg r1 r2 sb gl pa ok rY st := by
    refine ⟨vi, nm_r (bm_uq (by omega)) ?_⟩
    rcases hs with ⟨a, b⟩ | ⟨a, b⟩
    · rw [b] at h
      exact br_t a ⟨vi, nm_r (bm_uq (by omega)) (nm_r (nI_1 tN) h)⟩
    · rw [b] at h
      exact br_f a ⟨vi, nm_r (bm_uq (by omega)) (nm_r (nI_1 tN) h)⟩
  rcases hf with ⟨a, b⟩ | ⟨a, b⟩
  · rw [b] at K
    exact br_t a K
  · rw [b] at K
    exact br_f a K
end
section
variable {T P R cN tN pN rN gN : Nat} {cm sr pk : Int32} {ar tc t0 t1 hX kd pl pf ps us fi rp rg r1 r2 sb gl rb pp pt hg pA pB pC pa ok rY st : Nat → Int32} {H sz : Nat → Nat}
theorem bm_term_tail {post : Int32 → SX → Prop} {k c g : Nat} {f s x2 x3 A : Int32} (J : bm_J T P R cN tN pN rN gN ar tc t0 t1 hX kd pl pf ps us fi rp rg r1 r2 pA pB pC H sz)
    (hYX : ∀ i, i < tN → (bm_YF tc t0 t1 (nI c) x2 x3 A i ↔ (tc i = nI c ∧ t0 i = f ∧ t1 i = s)))
    (hf : (A < 1 ∧ f = -1) ∨ (¬ A < 1 ∧ f = x2)) (hs : (A = 2 ∧ s = x3) ∨ (¬ A = 2 ∧ s = -1))
    (hh : ∀ post' : Int32 → Prop, post' (nI g) → wpX_heightAbove post' (nI T, nI P, nI R, nI cN, nI tN, nI pN, nI rN, cm, sr, nI gN, pk, ar, upd tc tN (nI c), upd t0 tN f, upd t1 tN s, hX, kd, pl, pf, ps, us, fi, rp, rg, r1, r2, sb, gl, rb, pp, pt) f s)
    (hnew : bm_Tm ar (upd tc tN (nI c)) (upd t0 tN f) (upd t1 tN s) (upd hX tN (nI g)) (bm_un H tN g) cN tN)
    (hpost : ∀ r u', (∃ n, wY_term_65 (fun r' v' => r' = r ∧ i_Rel k u' v') (nI c) x2 x3 A (nI T) (nI P) (nI R) (nI cN) (nI tN) (nI pN) (nI rN) cm sr (nI gN) ar tc t0 t1 hg kd pA pB pC us rp rg r1 r2 sb gl pa ok rY st n 0) → post r u') :
    wX_term_86 post (nI c) f s (nI T) (nI P) (nI R) (nI cN) (nI tN) (nI pN) (nI rN) cm sr (nI gN) pk ar tc t0 t1 hX kd pl pf ps us fi rp rg r1 r2 sb gl rb pp pt := by
  obtain ⟨hJ, hAr, hIP, hIT, hIF, hIR⟩ := id J
  have h6 := hIT.1
  unfold wX_term_86
  by_cases ex : ∃ i, i < tN ∧ (tc i = nI c ∧ t0 i = f ∧ t1 i = s)
  · obtain ⟨j, ⟨hj, hy⟩, hmin⟩ := pk_least _ ex
    have hno : ∀ i, i < j → ¬ (tc i = nI c ∧ t0 i = f ∧ t1 i = s) := fun i hi z => hmin i hi ⟨by omega, z⟩
    refine ⟨j + 1, xx_find_t h6 hj hno hy (br_f (bm_ne1 (by omega)) (hpost _ _ ⟨j + 1, ?_⟩)) j 0 (j + 1) (by omega) (by omega)⟩
    exact yy_find_t h6 hj (fun i hi z => hno i hi ((hYX i (by omega)).mp z)) ((hYX j hj).mpr hy) ⟨rfl, bm_mk J⟩ j 0 (j + 1) (by omega) (by omega)
  · have hno : ∀ i, i < tN → ¬ (tc i = nI c ∧ t0 i = f ∧ t1 i = s) := fun i hi z => ex ⟨i, hi, z⟩
    have hnoY : ∀ i, i < tN → ¬ bm_YF tc t0 t1 (nI c) x2 x3 A i := fun i hi z => hno i hi ((hYX i hi).mp z)
    refine ⟨tN + 1, xx_find_f h6 hno (br_t rfl (br_c (fun z => hpost _ _ ⟨tN + 1, ?_⟩) (fun z => ?_))) tN 0 (tN + 1) (by omega) (by omega)⟩
    · exact yy_find_f h6 hnoY (fun n => br_t (nI_le (Nat.le_refl _) (by omega)) (br_t z ⟨rfl, bm_mk J⟩)) tN 0 (tN + 1) (by omega) (by omega)
    · have hlt : tN < T := by
        have : tN ≠ T := fun e => z (by rw [e])
        omega
      refine xx_storeTerm hJ.2.2.2.2.2.2.2 hIP.1 (by omega) hIP.2.1 hIT hIF hh hnew (fun fi' hF => hpost _ _ ⟨tN + 1, ?_⟩)
      refine yy_find_f h6 hnoY (fun n => br_t (nI_le (Nat.le_refl _) (by omega)) (br_f z ⟨vp_in_nI (by omega) (by decide), nm_r (bm_uq (by omega)) (yy_store (by omega) hf hs ⟨nI_pred tN, bm_mk (H := bm_un H tN g) (sz := sz) ?_⟩)⟩)) tN 0 (tN + 1) (by omega) (by omega)
      exact ⟨⟨hlt, hJ.2⟩, hAr, hIP, bm_IT_new hIT (by omega) hnew, hF, hIR⟩
end
theorem i_vc_term {k : Nat} {u : SX} {v : SY} (I : i_Rel k u v) (hk : k + 5 ≤ 2563) (v1 : Int32) (v2 : Int32) (v3 : Int32) : wpX_term (fun r u' => wpY_term (fun r' v' => r' = r ∧ i_Rel (k + 5) u' v') v v1 v2 v3) u v1 v2 v3 := by
  obtain ⟨T, P, R, cN, tN, pN, rN, gN, cm, sr, pk, ar, tc, t0, t1, hX, kd, pl, pf, ps, us, fi, rp, rg, r1, r2, sb, gl, rb, pp, pt, hg, pA, pB, pC, pa, ok, rY, st, H, sz, rfl, rfl, J⟩ := I
  obtain ⟨hJ, hAr, hIP, hIT, hIF, hIR⟩ := id J
  have h6 := hIT.1
  have h8 : cN ≤ 8 := hJ.2.2.2.2.2.2.2
  have bad : ∀ p : Int32, (p < 0 ∨ nI tN ≤ p) ∨ ∃ j, j < tN ∧ p = nI j := by
    intro p
    rcases pk_ix p (n := tN) (by omega) with z | z | z
    · exact Or.inl (Or.inl z)
    · exact Or.inl (Or.inr z)
    · exact Or.inr z
  rcases pk_ix v1 (n := cN) (by omega) with z | z | ⟨c, hc, rfl⟩
  · unfold wpX_term
    exact xx_cons_f (Or.inl z) (br_t rfl (br_t z ⟨rfl, bm_mk J⟩))
  · unfold wpX_term
    exact xx_cons_f (Or.inr z) (br_t rfl (br_f (bm_nlt0 (by omega) z) (br_f (Int32.not_lt.mpr z) ⟨rfl, bm_mk J⟩)))
  rcases hAr c hc with ea | ea | ea
  · refine xx_t0 hc h8 ea (bm_term_tail (x2 := v2) (x3 := v3) (A := 0) (g := 1) J ?_ (Or.inl ⟨by decide, rfl⟩) (Or.inr ⟨by decide, rfl⟩) (fun _ h => xx_h0 h) ?_ (fun r u' h => yy_t0 hc h8 ea h))
    · intro i hi
      refine ⟨fun z => ⟨z.1, ((bm_Tm_ar h8 hc (hIT.2 i hi) z.1).1 ea).1, ((bm_Tm_ar h8 hc (hIT.2 i hi) z.1).1 ea).2⟩, fun z => ⟨z.1, Or.inl (by decide), Or.inl (by decide)⟩⟩
    · exact ⟨c, hc, pk_us, by rw [pk_us, bm_un_s], by rw [bm_un_s]; omega, by rw [bm_un_s]; omega, Or.inl ⟨ea, pk_us, pk_us, bm_un_s⟩⟩
  · rcases bad v2 with z | ⟨j, hj, rfl⟩
    · exact xx_t1b hc h8 ea z (yy_tb hc h8 h6 ea (by decide) z ⟨rfl, bm_mk J⟩)
    · obtain ⟨_, _, _, ej, hj1, hj2, _⟩ := hIT.2 j hj
      refine xx_t1 hc h8 h6 ea hj (bm_term_tail (x2 := nI j) (x3 := v3) (A := 1) (g := H j + 1) J ?_ (Or.inr ⟨by decide, rfl⟩) (Or.inr ⟨by decide, rfl⟩) (fun _ h => xx_h1 (by omega) ej h) ?_ (fun r u' h => yy_t1 hc h8 h6 ea hj h))
      · intro i hi
        refine ⟨fun z => ⟨z.1, z.2.1.resolve_left (by decide), (bm_Tm_ar h8 hc (hIT.2 i hi) z.1).2 ea⟩, fun z => ⟨z.1, Or.inr z.2.1, Or.inl (by decide)⟩⟩
      · exact ⟨c, hc, pk_us, by rw [pk_us, bm_un_s], by rw [bm_un_s]; omega, by rw [bm_un_s]; omega, Or.inr (Or.inl ⟨j, ea, pk_us, hj, pk_us, by rw [bm_un_s, bm_un_n (by omega)]⟩)⟩
  · rcases bad v2 with z | ⟨j, hj, rfl⟩
    · exact xx_t2b hc h8 ea z (yy_tb hc h8 h6 ea (by decide) z ⟨rfl, bm_mk J⟩)
    · rcases bad v3 with z | ⟨l, hl, rfl⟩
      · exact xx_t2c hc h8 h6 ea hj z (yy_tc hc h8 h6 ea hj z ⟨rfl, bm_mk J⟩)
      · obtain ⟨_, _, _, ej, hj1, hj2, _⟩ := hIT.2 j hj
        obtain ⟨_, _, _, el, hl1, hl2, _⟩ := hIT.2 l hl
        have hb : (if H j < H l then H l else H j) ≤ tN := by
          split <;> omega
        refine xx_t2 hc h8 h6 ea hj hl (bm_term_tail (x2 := nI j) (x3 := nI l) (A := 2) (g := (if H j < H l then H l else H j) + 1) J ?_ (Or.inr ⟨by decide, rfl⟩) (Or.inl ⟨rfl, rfl⟩) (fun _ h => xx_h2 (by omega) (by omega) ej el (by omega) (by omega) h) ?_ (fun r u' h => yy_t2 hc h8 h6 ea hj hl h))
        · intro i hi
          refine ⟨fun z => ⟨z.1, z.2.1.resolve_left (by decide), z.2.2.resolve_left (by decide)⟩, fun z => ⟨z.1, Or.inr z.2.1, Or.inr z.2.2⟩⟩
        · exact ⟨c, hc, pk_us, by rw [pk_us, bm_un_s], by rw [bm_un_s]; omega, by rw [bm_un_s]; omega, Or.inr (Or.inr ⟨j, l, ea, hj, hl, pk_us, pk_us, by rw [bm_un_s, bm_un_n (by omega), bm_un_n (by omega)]⟩)⟩
end
section
/-! addRow -/
def bm_bad (n : Nat) (a : Int32) : Prop := a < 0 ∨ nI n ≤ a
theorem bm_bad_or {n : Nat} (hn : n < 2 ^ 31) (a : Int32) : bm_bad n a ∨ ∃ j, j < n ∧ a = nI j := by
  rcases pk_ix a hn with z | z | z
  · exact Or.inl (Or.inl z)
  · exact Or.inl (Or.inr z)
  · exact Or.inr z
/-- a guard's arguments that are valid, and not -/
def bm_GV (cN : Nat) (g a b : Int32) : Prop := g = 0 ∨ ((g = 1 ∨ g = 2) ∧ ∃ x y, x < 8 ∧ y < 8 ∧ a = nI x ∧ b = nI y) ∨ (g = 3 ∧ ∃ x c, x < 8 ∧ c < cN ∧ a = nI x ∧ b = nI c) ∨ (g = 4 ∧ ∃ x, x < 8 ∧ a = nI x)
def bm_GN (cN : Nat) (g a b : Int32) : Prop := ((g = 1 ∨ g = 2) ∧ (bm_bad 8 a ∨ ((∃ x, x < 8 ∧ a = nI x) ∧ bm_bad 8 b))) ∨ (g = 3 ∧ (bm_bad 8 a ∨ ((∃ x, x < 8 ∧ a = nI x) ∧ bm_bad cN b))) ∨ (g = 4 ∧ bm_bad 8 a)
theorem bm_GVN {cN : Nat} (hc : cN ≤ 8) {g : Int32} (a b : Int32) (h0 : ¬ g < 0) (h4 : g ≤ 4) : bm_GV cN g a b ∨ bm_GN cN g a b := by
  have B8 := bm_bad_or (n := 8) (by decide)
  have BC := bm_bad_or (n := cN) (by omega)
  have two : (g = 1 ∨ g = 2) → bm_GV cN g a b ∨ bm_GN cN g a b := by
    intro e
    rcases B8 a with z | ⟨x, hx, ex⟩
    · exact Or.inr (Or.inl ⟨e, Or.inl z⟩)
    · rcases B8 b with w | ⟨y, hy, ey⟩
      · exact Or.inr (Or.inl ⟨e, Or.inr ⟨⟨x, hx, ex⟩, w⟩⟩)
      · exact Or.inl (Or.inr (Or.inl ⟨e, x, y, hx, hy, ex, ey⟩))
  rcases bm_k5 h0 h4 with e | e | e | e | e
  · exact Or.inl (Or.inl e)
  · exact two (Or.inl e)
  · exact two (Or.inr e)
  · rcases B8 a with z | ⟨x, hx, ex⟩
    · exact Or.inr (Or.inr (Or.inl ⟨e, Or.inl z⟩))
    · rcases BC b with w | ⟨y, hy, ey⟩
      · exact Or.inr (Or.inr (Or.inl ⟨e, Or.inr ⟨⟨x, hx, ex⟩, w⟩⟩))
      · exact Or.inl (Or.inr (Or.inr (Or.inl ⟨e, x, y, hx, hy, ex, ey⟩)))
  · rcases B8 a with z | ⟨x, hx, ex⟩
    · exact Or.inr (Or.inr (Or.inr ⟨e, z⟩))
    · exact Or.inl (Or.inr (Or.inr (Or.inr ⟨e, x, hx, ex⟩)))
/-- the reference's chain over a guard's arguments: A refuses, B stores, S the pair of variables -/
def bm_YG (A B S : Prop) (fC g a b : Int32) : Prop :=
  ((g = 1 → S) ∧ (¬ g = 1 → ((g = 2 → S) ∧ (¬ g = 2 → ((g = 3 → ((a < 0 → A) ∧ (¬ a < 0 → ((7 < a → A) ∧ (¬ 7 < a → ((b < 0 → A) ∧ (¬ b < 0 → ((b < fC → B) ∧ (¬ b < fC → A)))))))) ) ∧ (¬ g = 3 → ((g = 4 → ((a < 0 → A) ∧ (¬ a < 0 → ((a ≤ 7 → B) ∧ (¬ a ≤ 7 → A))))) ∧ (¬ g = 4 → B))))))))
def bm_YF1 (A B : Prop) (us : Nat → Int32) (fQ b : Int32) : Prop := ((b < 0 → A) ∧ (¬ b < 0 → ((fQ ≤ b → A) ∧ (¬ fQ ≤ b → (vp_in b 64 ∧ ((us b.toNatClampNeg = 0 → B) ∧ (¬ us b.toNatClampNeg = 0 → A)))))))
theorem yy_fr_t {A B : Prop} {us : Nat → Int32} {pN q : Nat} (hq : q < pN) (h6 : pN ≤ 64) (h0 : us q = 0) (h : B) : bm_YF1 A B us (nI pN) (nI q) :=
  br_f (bm_nge (by omega)) (br_f (nI_ge hq (by omega)) ⟨vp_in_nI (by omega) (by omega), br_t (by rw [nI_clamp (by omega)]; exact h0) h⟩)
theorem yy_fr_f {A B : Prop} {us : Nat → Int32} {pN : Nat} {b : Int32} (h6 : pN ≤ 64) (hb : bm_NFree us pN b) (h : A) : bm_YF1 A B us (nI pN) b := by
  rcases hb with z | z | ⟨q, hq, rfl, h0⟩
  · exact br_t z h
  · exact br_c (fun _ => h) (fun _ => br_t z h)
  · exact br_f (bm_nge (by omega)) (br_f (nI_ge hq (by omega)) ⟨vp_in_nI (by omega) (by omega), br_f (by rw [nI_clamp (by omega)]; exact h0) h⟩)
theorem yy_ga_t {A B S : Prop} {cN : Nat} {g a b : Int32} (h8 : cN ≤ 8) (h : bm_GV cN g a b) (hS : (g = 1 ∨ g = 2) → S) (hB : B) : bm_YG A B S (nI cN) g a b := by
  rcases h with rfl | ⟨e, _⟩ | ⟨rfl, x, c, hx, hc, rfl, rfl⟩ | ⟨rfl, x, hx, rfl⟩
  · exact br_f (by decide) (br_f (by decide) (br_f (by decide) (br_f (by decide) hB)))
  · rcases e with rfl | rfl
    · exact br_t rfl (hS (Or.inl rfl))
    · exact br_f (by decide) (br_t rfl (hS (Or.inr rfl)))
  · exact br_f (by decide) (br_f (by decide) (br_t rfl (br_f (bm_nge (by omega)) (br_f (bm_n7lt hx) (br_f (bm_nge (by omega)) (br_t (nI_lt hc (by omega)) hB))))))
  · exact br_f (by decide) (br_f (by decide) (br_f (by decide) (br_t rfl (br_f (bm_nge (by omega)) (br_t (bm_le7 hx) hB)))))
theorem yy_ga_f {A B S : Prop} {cN : Nat} {g a b : Int32} (h8 : cN ≤ 8) (h : bm_GN cN g a b) (hS : (g = 1 ∨ g = 2) → S) (hA : A) : bm_YG A B S (nI cN) g a b := by
  rcases h with ⟨e, _⟩ | ⟨rfl, z | ⟨⟨x, hx, rfl⟩, z⟩⟩ | ⟨rfl, z⟩
  · rcases e with rfl | rfl
    · exact br_t rfl (hS (Or.inl rfl))
    · exact br_f (by decide) (br_t rfl (hS (Or.inr rfl)))
  · exact br_f (by decide) (br_f (by decide) (br_t rfl (br_c (fun _ => hA) (fun w => br_t (bm_7lt (z.resolve_left w)) hA))))
  · exact br_f (by decide) (br_f (by decide) (br_t rfl (br_f (bm_nge (by omega)) (br_f (bm_n7lt hx) (br_c (fun _ => hA) (fun w => br_f (Int32.not_lt.mpr (z.resolve_left w)) hA))))))
  · exact br_f (by decide) (br_f (by decide) (br_f (by decide) (br_t rfl (br_c (fun _ => hA) (fun w => br_f (bm_nle7 (z.resolve_left w)) hA)))))
section
variable {fT fP fR fC fN fQ fW cm sr fG pk : Int32} {ar tc t0 t1 hX kd pl pf ps us fi rp rg r1 r2 sb gl rb pp pt hg pA pB pC pa ok rY st : Nat → Int32} {H sz : Nat → Nat} {cN pN tN rN : Nat}
theorem xx_g32_t {post : Int32 → Prop} {x y : Nat} (hx : x < 8) (hy : y < 8) (h : post 1) : wX_guardArgumentsAreValid_32 post (nI x) (nI y) fT fP fR fC fN fQ fW cm sr fG pk ar tc t0 t1 hX kd pl pf ps us fi rp rg r1 r2 sb gl rb pp pt := by
  unfold wX_guardArgumentsAreValid_32
  exact xx_var_t hx (br_f bm_n10 (xx_var_t hy (br_f bm_n10 h)))
theorem xx_g32_f {post : Int32 → Prop} {a b : Int32} (z : bm_bad 8 a ∨ ((∃ x, x < 8 ∧ a = nI x) ∧ bm_bad 8 b)) (h : post 0) : wX_guardArgumentsAreValid_32 post a b fT fP fR fC fN fQ fW cm sr fG pk ar tc t0 t1 hX kd pl pf ps us fi rp rg r1 r2 sb gl rb pp pt := by
  unfold wX_guardArgumentsAreValid_32
  rcases z with z | ⟨⟨x, hx, rfl⟩, z⟩
  · exact xx_var_f z (br_t rfl h)
  · exact xx_var_t hx (br_f bm_n10 (xx_var_f z (br_t rfl h)))
theorem xx_ga_t {post : Int32 → Prop} {g a b : Int32} (h8 : cN ≤ 8) (z : bm_GV cN g a b) (h : post 1) : wpX_guardArgumentsAreValid post (fT, fP, fR, nI cN, fN, fQ, fW, cm, sr, fG, pk, ar, tc, t0, t1, hX, kd, pl, pf, ps, us, fi, rp, rg, r1, r2, sb, gl, rb, pp, pt) g a b := by
  rcases z with rfl | ⟨e, x, y, hx, hy, rfl, rfl⟩ | ⟨rfl, x, c, hx, hc, rfl, rfl⟩ | ⟨rfl, x, hx, rfl⟩
  · exact br_t (by decide) h
  · rcases e with rfl | rfl
    · exact br_f (by decide) (br_f (by decide) (br_t rfl (xx_g32_t hx hy h)))
    · exact br_f (by decide) (br_f (by decide) (br_f (by decide) (br_t rfl (xx_g32_t hx hy h))))
  · exact br_f (by decide) (br_f (by decide) (br_f (by decide) (br_f (by decide) (br_t rfl (xx_var_t hx (br_f bm_n10 (xx_cons_t hc h8 (br_f bm_n10 h))))))))
  · exact br_f (by decide) (br_f (by decide) (br_f (by decide) (br_f (by decide) (br_f (by decide) (br_t rfl (xx_var_t hx ⟨bm_nb1, h⟩))))))
theorem xx_ga_f {post : Int32 → Prop} {g a b : Int32} (h8 : cN ≤ 8) (z : bm_GN cN g a b) (h : post 0) : wpX_guardArgumentsAreValid post (fT, fP, fR, nI cN, fN, fQ, fW, cm, sr, fG, pk, ar, tc, t0, t1, hX, kd, pl, pf, ps, us, fi, rp, rg, r1, r2, sb, gl, rb, pp, pt) g a b := by
  rcases z with ⟨e, z⟩ | ⟨rfl, z | ⟨⟨x, hx, rfl⟩, z⟩⟩ | ⟨rfl, z⟩
  · rcases e with rfl | rfl
    · exact br_f (by decide) (br_f (by decide) (br_t rfl (xx_g32_f z h)))
    · exact br_f (by decide) (br_f (by decide) (br_f (by decide) (br_t rfl (xx_g32_f z h))))
  · exact br_f (by decide) (br_f (by decide) (br_f (by decide) (br_f (by decide) (br_t rfl (xx_var_f z (br_t rfl h))))))
  · exact br_f (by decide) (br_f (by decide) (br_f (by decide) (br_f (by decide) (br_t rfl (xx_var_t hx (br_f bm_n10 (xx_cons_f z (br_t rfl h))))))))
  · exact br_f (by decide) (br_f (by decide) (br_f (by decide) (br_f (by decide) (br_f (by decide) (br_t rfl (xx_var_f z ⟨bm_nb0, h⟩))))))
theorem yy_66_t {post : Int32 → SY → Prop} {p g : Int32} {x y : Nat} (hx : x < 8) (hy : y < 8) (h : wY_addRow_138 post p g (nI x) (nI y) fT fP fR fC fN fQ fW cm sr fG ar tc t0 t1 hg kd pA pB pC us rp rg r1 r2 sb gl pa ok rY st) : wY_addRow_66 post p g (nI x) (nI y) fT fP fR fC fN fQ fW cm sr fG ar tc t0 t1 hg kd pA pB pC us rp rg r1 r2 sb gl pa ok rY st :=
  br_f (bm_nge (by omega)) (br_f (bm_n7lt hx) (br_f (bm_nge (by omega)) (br_t (bm_le7 hy) h)))
theorem yy_66_f {post : Int32 → SY → Prop} {p g a b : Int32} (z : bm_bad 8 a ∨ ((∃ x, x < 8 ∧ a = nI x) ∧ bm_bad 8 b)) (h : post (-1) (fT, fP, fR, fC, fN, fQ, fW, cm, sr, fG, ar, tc, t0, t1, hg, kd, pA, pB, pC, us, rp, rg, r1, r2, sb, gl, pa, ok, rY, st)) : wY_addRow_66 post p g a b fT fP fR fC fN fQ fW cm sr fG ar tc t0 t1 hg kd pA pB pC us rp rg r1 r2 sb gl pa ok rY st := by
  rcases z with z | ⟨⟨x, hx, rfl⟩, z⟩
  · exact br_c (fun _ => h) (fun w => br_t (bm_7lt (z.resolve_left w)) h)
  · exact br_f (bm_nge (by omega)) (br_f (bm_n7lt hx) (br_c (fun _ => h) (fun w => br_f (bm_nle7 (z.resolve_left w)) h)))
theorem yy_138 {post : Int32 → SY → Prop} {q : Nat} {g a b : Int32} (hq : q < 64) (hr : rN < 8) (h : post (nI (rN + 1) - 1) (fT, fP, fR, fC, fN, fQ, nI (rN + 1), cm, sr, fG, ar, tc, t0, t1, hg, kd, pA, pB, pC, upd us q 1, upd rp rN (nI q), upd rg rN g, upd r1 rN a, upd r2 rN b, sb, gl, pa, ok, rY, st)) : wY_addRow_138 post (nI q) g a b fT fP fR fC fN fQ (nI rN) cm sr fG ar tc t0 t1 hg kd pA pB pC us rp rg r1 r2 sb gl pa ok rY st := by
  have vr : vp_in (nI rN) 8 := vp_in_nI hr (by decide)
  have eu : upd us (nI q).toNatClampNeg (vp_nar .boolean 1) = upd us q 1 := by rw [nI_clamp (by omega), bm_vb1]
  exact ⟨vp_in_nI hq (by decide), nm_r eu ⟨vr, nm_r (bm_uq (by omega)) ⟨vr, nm_r (bm_uq (by omega)) ⟨vr, nm_r (bm_uq (by omega)) ⟨vr, nm_r (bm_uq (by omega)) (nm_r (nI_1 rN) h)⟩⟩⟩⟩⟩
end
theorem bm_GV_Rw {rp rg r1 r2 : Nat → Int32} {sz : Nat → Nat} {cN pN rN q : Nat} {g a b : Int32} (hq : q < pN) (hs : sz q ≤ 64) (h : bm_GV cN g a b) : bm_Rw (upd rp rN (nI q)) (upd rg rN g) (upd r1 rN a) (upd r2 rN b) sz pN rN := by
  refine ⟨q, hq, pk_us, hs, ?_⟩
  rw [pk_us, pk_us, pk_us]
  rcases h with rfl | ⟨e, x, y, hx, hy, rfl, rfl⟩ | ⟨rfl, x, c, hx, hc, rfl, rfl⟩ | ⟨rfl, x, hx, rfl⟩
  · exact Or.inl rfl
  · exact Or.inr (Or.inl ⟨x, y, e, hx, hy, rfl, rfl⟩)
  · exact Or.inr (Or.inr ⟨x, Or.inl rfl, hx, rfl⟩)
  · exact Or.inr (Or.inr ⟨x, Or.inr rfl, hx, rfl⟩)
theorem i_vc_addRow {k : Nat} {u : SX} {v : SY} (I : i_Rel k u v) (hk : k + 5 ≤ 2563) (v1 : Int32) (v2 : Int32) (v3 : Int32) (v4 : Int32) : wpX_addRow (fun r u' => wpY_addRow (fun r' v' => r' = r ∧ i_Rel (k + 5) u' v') v v1 v2 v3 v4) u v1 v2 v3 v4 := by
  obtain ⟨T, P, R, cN, tN, pN, rN, gN, cm, sr, pk, ar, tc, t0, t1, hX, kd, pl, pf, ps, us, fi, rp, rg, r1, r2, sb, gl, rb, pp, pt, hg, pA, pB, pC, pa, ok, rY, st, H, sz, rfl, rfl, J⟩ := I
  obtain ⟨hJ, hAr, hIP, hIT, hIF, hIR⟩ := id J
  have h8 : cN ≤ 8 := hJ.2.2.2.2.2.2.2
  have h6 := hIP.1
  refine br_c (fun a => br_c (fun b => br_t a (br_t b ⟨rfl, bm_mk J⟩)) (fun b => ?_)) (fun a => br_f a ⟨rfl, bm_mk J⟩)
  have hr : rN < R := by
    have : rN ≠ R := fun e => b (by rw [e])
    omega
  rcases bm_free us h6 v1 with ⟨q, hq, rfl, h0⟩ | z
  · refine xx_free_t hq h6 h0 (br_f bm_n10 (br_c (fun c => br_t a (br_f b (yy_fr_t hq h6 h0 (br_t c ⟨rfl, bm_mk J⟩)))) (fun c => br_c (fun d => ?_) (fun d => br_t a (br_f b (yy_fr_t hq h6 h0 (br_f c (br_f d ⟨rfl, bm_mk J⟩))))))))
    rcases bm_GVN h8 v3 v4 c d with gv | gn
    · have vr : vp_in (nI rN) 8 := vp_in_nI (by omega) (by decide)
      have eu : upd us (nI q).toNatClampNeg (vp_nar .boolean 1) = upd us q 1 := by rw [nI_clamp (by omega), bm_vb1]
      obtain ⟨hIP', hs⟩ := bm_IP_take hIP hq h0
      refine xx_ga_t h8 gv (br_f bm_n10 ⟨vr, nm_r (bm_uq (by omega)) ⟨vr, nm_r (bm_uq (by omega)) ⟨vr, nm_r (bm_uq (by omega)) ⟨vr, nm_r (bm_uq (by omega)) ⟨vp_in_nI (by omega) (by decide), nm_r eu (nm_r (nI_1 rN) ?_)⟩⟩⟩⟩⟩)
      have fin : wY_addRow_138 (fun r' v' => r' = nI rN ∧ i_Rel (k + 5) (nI T, nI P, nI R, nI cN, nI tN, nI pN, nI (rN + 1), cm, sr, nI gN, pk, ar, tc, t0, t1, hX, kd, pl, pf, ps, upd us q 1, fi, upd rp rN (nI q), upd rg rN v2, upd r1 rN v3, upd r2 rN v4, sb, gl, rb, pp, pt) v') (nI q) v2 v3 v4 (nI T) (nI P) (nI R) (nI cN) (nI tN) (nI pN) (nI rN) cm sr (nI gN) ar tc t0 t1 hg kd pA pB pC us rp rg r1 r2 sb gl pa ok rY st := by
        refine yy_138 (by omega) (by omega) ⟨nI_pred rN, bm_mk (H := H) (sz := sz) ?_⟩
        exact ⟨⟨hJ.1, hJ.2.1, hJ.2.2.1, hJ.2.2.2.1, hr, hJ.2.2.2.2.2⟩, hAr, hIP', hIT, hIF, bm_IR_new hIR (by omega) (bm_GV_Rw hq hs gv)⟩
      refine br_t a (br_f b (yy_fr_t hq h6 h0 (br_f c (br_t d (yy_ga_t h8 gv (fun e => ?_) fin)))))
      rcases gv with rfl | ⟨_, x, y, hx, hy, rfl, rfl⟩ | ⟨rfl, _⟩ | ⟨rfl, _⟩
      · rcases e with e | e <;> exact absurd e (by decide)
      · exact yy_66_t hx hy fin
      · rcases e with e | e <;> exact absurd e (by decide)
      · rcases e with e | e <;> exact absurd e (by decide)
    · refine xx_ga_f h8 gn (br_t rfl (br_t a (br_f b (yy_fr_t hq h6 h0 (br_f c (br_t d (yy_ga_f h8 gn (fun e => ?_) ⟨rfl, bm_mk J⟩)))))))
      rcases gn with ⟨_, z⟩ | ⟨rfl, _⟩ | ⟨rfl, _⟩
      · exact yy_66_f z ⟨rfl, bm_mk J⟩
      · rcases e with e | e <;> exact absurd e (by decide)
      · rcases e with e | e <;> exact absurd e (by decide)
  · exact xx_free_f h6 z (br_t rfl (br_t a (br_f b (yy_fr_f h6 z ⟨rfl, bm_mk J⟩))))
end
section
/-! pat -/
section
variable {fT fP fR fC fN fQ fW cm sr fG pk : Int32} {ar tc t0 t1 hX kd pl pf ps us fi rp rg r1 r2 sb gl rb pp pt hg pA pB pC pa ok rY st : Nat → Int32} {H sz : Nat → Nat} {cN pN tN rN : Nat}
theorem xx_84 {post : Int32 → SX → Prop} (hcN : cN ≤ 8) (hp6 : pN < 64) (ht6 : tN ≤ 64) (hN : ∀ p, p < pN + 1 → bm_Nd ar kd pl pf ps pA pB pC cN p) (hT : ∀ t, t < tN → bm_Tm ar tc t0 t1 hX H cN t)
    (hpost : ∀ fi', bm_IF kd pl pf ps tc t0 t1 fi' (pN + 1) tN → post (nI pN) (fT, fP, fR, fC, nI tN, fQ, fW, cm, sr, fG, pk, ar, tc, t0, t1, hX, kd, pl, pf, ps, us, fi', rp, rg, r1, r2, sb, gl, rb, pp, pt)) : ∀ (d i n : Nat) (fi : Nat → Int32), i + d = tN → d < n →
      bm_FG kd pl pf ps tc t0 t1 fi (fun p t => t < tN ∧ (p < pN ∨ (p = pN ∧ t < i))) → wX_storePattern_84 post (nI pN) n (nI i) fT fP fR fC (nI tN) fQ fW cm sr fG pk ar tc t0 t1 hX kd pl pf ps us fi rp rg r1 r2 sb gl rb pp pt := by
  intro d
  induction d with
  | zero =>
    intro i n fi hi hn hF
    obtain ⟨m, rfl⟩ : ∃ m, n = m + 1 := ⟨n - 1, by omega⟩
    exact br_t (nI_le (by omega) (by omega)) (hpost fi (bm_FG_pe (bm_FG_m hF (fun p t z => by omega))))
  | succ d ih =>
    intro i n fi hi hn hF
    obtain ⟨m, rfl⟩ : ∃ m, n = m + 1 := ⟨n - 1, by omega⟩
    exact br_f (nI_ge (by omega) (by omega)) (xx_record hcN (by omega) (by omega) (hN pN (by omega)) (hT i (by omega)) hF.1 (fun v hv hn' => nm_r (nI_1 i) (ih (i + 1) m _ (by omega) (by omega) (bm_FG_ps hp6 ht6 hN hT (by omega) hF hn' hv))))
theorem xx_59 {post : Int32 → SX → Prop} {s : Int32} (hs : bm_Fr us pN s ∨ s = -1 ∨ ∃ r, r < 64 ∧ s = nI r) (hp6 : pN < 64) (h : ∃ n, wX_storePattern_84 post (nI pN) n 0 fT fP fR fC fN (nI (pN + 1)) fW cm sr fG pk ar tc t0 t1 hX kd pl pf ps (bm_mark us s) fi rp rg r1 r2 sb gl rb pp pt) : wX_storePattern_59 post s (nI pN) fT fP fR fC fN fQ fW cm sr fG pk ar tc t0 t1 hX kd pl pf ps us fi rp rg r1 r2 sb gl rb pp pt := by
  have hs' : s = -1 ∨ ∃ r, r < 64 ∧ s = nI r := by
    rcases hs with (e | ⟨q, hq, e, _⟩) | e
    · exact Or.inl e
    · exact Or.inr ⟨q, by omega, e⟩
    · exact e
  rcases hs' with rfl | ⟨r, hr, rfl⟩
  · rw [bm_mark_n] at h
    exact br_t rfl (nm_r (nI_1 pN) h)
  · rw [bm_mark_s (by omega)] at h
    exact br_f (bm_ne1 (by omega)) ⟨vp_in_nI hr (by decide), nm_r (by rw [nI_clamp (by omega), bm_vb1]) (nm_r (nI_1 pN) h)⟩
theorem xx_storePat {post : Int32 → SX → Prop} {k a f s : Int32} (hcN : cN ≤ 8) (hp6 : pN < 64) (hT : bm_IT ar tc t0 t1 hX H cN tN) (hF : bm_IF kd pl pf ps tc t0 t1 fi pN tN) (hf : bm_Fr us pN f) (hs : bm_Fr us pN s)
    (hN : ∀ p, p < pN + 1 → bm_Nd ar (upd kd pN k) (upd pl pN a) (upd pf pN f) (upd ps pN s) pA pB pC cN p)
    (hpost : ∀ fi', bm_IF (upd kd pN k) (upd pl pN a) (upd pf pN f) (upd ps pN s) tc t0 t1 fi' (pN + 1) tN → post (nI pN) (fT, fP, fR, fC, nI tN, nI (pN + 1), fW, cm, sr, fG, pk, ar, tc, t0, t1, hX, upd kd pN k, upd pl pN a, upd pf pN f, upd ps pN s, bm_mark (bm_mark (upd us pN 0) f) s, fi', rp, rg, r1, r2, sb, gl, rb, pp, pt)) :
    wpX_storePattern post (fT, fP, fR, fC, nI tN, nI pN, fW, cm, sr, fG, pk, ar, tc, t0, t1, hX, kd, pl, pf, ps, us, fi, rp, rg, r1, r2, sb, gl, rb, pp, pt) k a f s := by
  have vi : vp_in (nI pN) 64 := vp_in_nI hp6 (by omega)
  have L : ∃ n, wX_storePattern_84 post (nI pN) n 0 fT fP fR fC (nI tN) (nI (pN + 1)) fW cm sr fG pk ar tc t0 t1 hX (upd kd pN k) (upd pl pN a) (upd pf pN f) (upd ps pN s) (bm_mark (bm_mark (upd us pN 0) f) s) fi rp rg r1 r2 sb gl rb pp pt :=
    ⟨tN + 1, xx_84 hcN hp6 hT.1 hN hT.2 hpost tN 0 (tN + 1) fi (by omega) (by omega) (bm_FG_p hF)⟩
  have hs' : s = -1 ∨ ∃ r, r < 64 ∧ s = nI r := by
    rcases hs with e | ⟨q, hq, e, _⟩
    · exact Or.inl e
    · exact Or.inr ⟨q, by omega, e⟩
  have L2 := xx_59 (fQ := nI pN) (Or.inr hs') hp6 L
  refine ⟨vi, nm_r (bm_uq (by omega)) ⟨vi, nm_r (bm_uq (by omega)) ⟨vi, nm_r (bm_uq (by omega)) ⟨vi, nm_r (bm_uq (by omega)) ⟨vi, nm_r (by rw [nI_clamp (by omega), bm_vb0]) ?_⟩⟩⟩⟩⟩
  rcases hf with rfl | ⟨q, hq, rfl, _⟩
  · rw [bm_mark_n] at L2
    exact br_t rfl L2
  · rw [bm_mark_s (by omega)] at L2
    exact br_f (bm_ne1 (by omega)) ⟨vp_in_nI (by omega) (by decide), nm_r (by rw [nI_clamp (by omega), bm_vb1]) L2⟩
theorem yy_245 {post : Int32 → SY → Prop} {x1 x5 x6 x7 : Int32} (hp6 : pN < 64) (h : post (nI (pN + 1) - 1) (fT, fP, fR, fC, fN, nI (pN + 1), fW, cm, sr, fG, ar, tc, t0, t1, hg, upd kd pN x1, upd pA pN x5, upd pB pN x6, upd pC pN x7, upd us pN 0, rp, rg, r1, r2, sb, gl, pa, ok, rY, st)) : wY_pat_245 post x1 x5 x6 x7 fT fP fR fC fN (nI pN) fW cm sr fG ar tc t0 t1 hg kd pA pB pC us rp rg r1 r2 sb gl pa ok rY st := by
  have vi : vp_in (nI pN) 64 := vp_in_nI hp6 (by omega)
  exact ⟨vi, nm_r (bm_uq (by omega)) ⟨vi, nm_r (bm_uq (by omega)) ⟨vi, nm_r (bm_uq (by omega)) ⟨vi, nm_r (bm_uq (by omega)) ⟨vi, nm_r (by rw [nI_clamp (by omega), bm_vb0]) (nm_r (nI_1 pN) h)⟩⟩⟩⟩⟩
theorem yy_232_n {post : Int32 → SY → Prop} {x1 x5 x6 : Int32} (h : wY_pat_245 post x1 x5 x6 (-1) fT fP fR fC fN fQ fW cm sr fG ar tc t0 t1 hg kd pA pB pC us rp rg r1 r2 sb gl pa ok rY st) : wY_pat_232 post x1 x5 x6 (-1) fT fP fR fC fN fQ fW cm sr fG ar tc t0 t1 hg kd pA pB pC us rp rg r1 r2 sb gl pa ok rY st := br_t (by decide) h
theorem yy_232_s {post : Int32 → SY → Prop} {x1 x5 x6 : Int32} {r : Nat} (hr : r < 64) (h : wY_pat_245 post x1 x5 x6 (nI r) fT fP fR fC fN fQ fW cm sr fG ar tc t0 t1 hg kd pA pB pC (upd us r 1) rp rg r1 r2 sb gl pa ok rY st) : wY_pat_232 post x1 x5 x6 (nI r) fT fP fR fC fN fQ fW cm sr fG ar tc t0 t1 hg kd pA pB pC us rp rg r1 r2 sb gl pa ok rY st :=
  br_f (bm_nge (by omega)) ⟨vp_in_nI hr (by decide), nm_r (by rw [nI_clamp (by omega), bm_vb1]) h⟩
theorem yy_215_n {post : Int32 → SY → Prop} {x1 x5 x7 : Int32} (h : wY_pat_232 post x1 x5 (-1) x7 fT fP fR fC fN fQ fW cm sr fG ar tc t0 t1 hg kd pA pB pC us rp rg r1 r2 sb gl pa ok rY st) : wY_pat_215 post x1 x5 (-1) x7 fT fP fR fC fN fQ fW cm sr fG ar tc t0 t1 hg kd pA pB pC us rp rg r1 r2 sb gl pa ok rY st := br_c (fun _ => h) (fun _ => br_t (by decide) h)
theorem yy_215_s {post : Int32 → SY → Prop} {x1 x5 x7 : Int32} {q : Nat} (h1 : ¬ x1 = 0) (hq : q < 64) (h : wY_pat_232 post x1 x5 (nI q) x7 fT fP fR fC fN fQ fW cm sr fG ar tc t0 t1 hg kd pA pB pC (upd us q 1) rp rg r1 r2 sb gl pa ok rY st) : wY_pat_215 post x1 x5 (nI q) x7 fT fP fR fC fN fQ fW cm sr fG ar tc t0 t1 hg kd pA pB pC us rp rg r1 r2 sb gl pa ok rY st :=
  br_f h1 (br_f (bm_nge (by omega)) ⟨vp_in_nI hq (by decide), nm_r (by rw [nI_clamp (by omega), bm_vb1]) h⟩)
theorem yy_203_o {post : Int32 → SY → Prop} {x5 x6 x7 : Int32} {q : Nat} (hq : q < 64) (h : wY_pat_215 post 3 x5 x6 x7 fT fP fR fC fN fQ fW cm sr fG ar tc t0 t1 hg kd pA pB pC (upd us q 1) rp rg r1 r2 sb gl pa ok rY st) : wY_pat_203 post 3 (nI q) x5 x6 x7 fT fP fR fC fN fQ fW cm sr fG ar tc t0 t1 hg kd pA pB pC us rp rg r1 r2 sb gl pa ok rY st :=
  br_t rfl ⟨vp_in_nI hq (by decide), nm_r (by rw [nI_clamp (by omega), bm_vb1]) h⟩
theorem yy_ch_t {post : Int32 → Prop} {q : Nat} (hq : q < pN) (h6 : pN ≤ 64) (h0 : us q = 0) (h : post 1) : wpY_validChild post (fT, fP, fR, fC, fN, nI pN, fW, cm, sr, fG, ar, tc, t0, t1, hg, kd, pA, pB, pC, us, rp, rg, r1, r2, sb, gl, pa, ok, rY, st) (nI q) :=
  br_f (bm_nge (by omega)) (br_f (nI_ge hq (by omega)) ⟨vp_in_nI (by omega) (by omega), br_t (by rw [nI_clamp (by omega)]; exact h0) h⟩)
theorem yy_ch_f {post : Int32 → Prop} {b : Int32} (h6 : pN ≤ 64) (hb : bm_NFree us pN b) (h : post 0) : wpY_validChild post (fT, fP, fR, fC, fN, nI pN, fW, cm, sr, fG, ar, tc, t0, t1, hg, kd, pA, pB, pC, us, rp, rg, r1, r2, sb, gl, pa, ok, rY, st) b := by
  rcases hb with z | z | ⟨q, hq, rfl, h0⟩
  · exact br_t z h
  · exact br_c (fun _ => h) (fun _ => br_t z h)
  · exact br_f (bm_nge (by omega)) (br_f (nI_ge hq (by omega)) ⟨vp_in_nI (by omega) (by omega), br_f (by rw [nI_clamp (by omega)]; exact h0) h⟩)
end
/-- the flags of the two sides -/
theorem bm_us1 {us : Nat → Int32} {n q : Nat} (hq : q < n) (hn : n ≤ 64) : upd (upd us q 1) n 0 = bm_mark (bm_mark (upd us n 0) (nI q)) (-1) := by
  rw [bm_mark_n, bm_mark_s (by omega), bm_uc (by omega)]
theorem bm_us2 {us : Nat → Int32} {n q r : Nat} (hq : q < n) (hr : r < n) (hn : n ≤ 64) : upd (upd (upd us q 1) r 1) n 0 = bm_mark (bm_mark (upd us n 0) (nI q)) (nI r) := by
  rw [bm_mark_s (by omega), bm_mark_s (by omega), bm_uc (by omega), bm_uc (i := q) (by omega)]
theorem bm_us0 {us : Nat → Int32} {n : Nat} : upd us n 0 = bm_mark (bm_mark (upd us n 0) (-1)) (-1) := by
  rw [bm_mark_n, bm_mark_n]
section
variable {T P R cN tN pN rN gN : Nat} {cm sr pk : Int32} {ar tc t0 t1 hX kd pl pf ps us fi rp rg r1 r2 sb gl rb pp pt hg pA pB pC pa ok rY st : Nat → Int32} {H sz : Nat → Nat}
/-- a new node, on both sides: what the component stores, then what the reference's end owes -/
theorem bm_pat_new {post : Int32 → SX → Prop} {k' : Nat} {k a f s A B C : Int32} (J : bm_J T P R cN tN pN rN gN ar tc t0 t1 hX kd pl pf ps us fi rp rg r1 r2 pA pB pC H sz) (hlt : pN < P)
    (hf : bm_Fr us pN f) (hs : bm_Fr us pN s) (hfs : f = -1 ∨ s = -1 ∨ f ≠ s)
    (hnd : bm_Nd ar (upd kd pN k) (upd pl pN a) (upd pf pN f) (upd ps pN s) (upd pA pN A) (upd pB pN B) (upd pC pN C) cN pN)
    (hpost : ∀ fi', i_Rel k' (nI T, nI P, nI R, nI cN, nI tN, nI (pN + 1), nI rN, cm, sr, nI gN, pk, ar, tc, t0, t1, hX, upd kd pN k, upd pl pN a, upd pf pN f, upd ps pN s, bm_mark (bm_mark (upd us pN 0) f) s, fi', rp, rg, r1, r2, sb, gl, rb, pp, pt) (nI T, nI P, nI R, nI cN, nI tN, nI (pN + 1), nI rN, cm, sr, nI gN, ar, tc, t0, t1, hg, upd kd pN k, upd pA pN A, upd pB pN B, upd pC pN C, bm_mark (bm_mark (upd us pN 0) f) s, rp, rg, r1, r2, sb, gl, pa, ok, rY, st) → post (nI pN) (nI T, nI P, nI R, nI cN, nI tN, nI (pN + 1), nI rN, cm, sr, nI gN, pk, ar, tc, t0, t1, hX, upd kd pN k, upd pl pN a, upd pf pN f, upd ps pN s, bm_mark (bm_mark (upd us pN 0) f) s, fi', rp, rg, r1, r2, sb, gl, rb, pp, pt)) : wpX_storePattern post (nI T, nI P, nI R, nI cN, nI tN, nI pN, nI rN, cm, sr, nI gN, pk, ar, tc, t0, t1, hX, kd, pl, pf, ps, us, fi, rp, rg, r1, r2, sb, gl, rb, pp, pt) k a f s := by
  obtain ⟨hJ, hAr, hIP, hIT, hIF, hIR⟩ := id J
  have hIP' := bm_IP_new hIP (by omega) k a f s A B C hf hs hfs hnd
  refine xx_storePat hJ.2.2.2.2.2.2.2 (by omega) hIT hIF hf hs hIP'.2.1 (fun fi' hF => hpost _ (bm_mk (H := H) (sz := bm_un sz pN (1 + bm_szc sz f + bm_szc sz s)) ?_))
  exact ⟨⟨hJ.1, hJ.2.1, hlt, hJ.2.2.2⟩, hAr, hIP', hIT, hF, bm_IR_p hIR⟩
end
end
section
/-! the owed statement of pat -/
section
variable {fT fP fR fC fN fQ fW cm sr fG pk : Int32} {ar tc t0 t1 hX kd pl pf ps us fi rp rg r1 r2 sb gl rb pp pt hg pA pB pC pa ok rY st : Nat → Int32} {H sz : Nat → Nat} {cN pN tN rN q r : Nat}
theorem xx_cc0 {post : Int32 → Prop} {A b c : Int32} (h1 : A < 1) (h2 : A < 2) (h : post 1) : wpX_consChildrenAreValid post (fT, fP, fR, fC, fN, fQ, fW, cm, sr, fG, pk, ar, tc, t0, t1, hX, kd, pl, pf, ps, us, fi, rp, rg, r1, r2, sb, gl, rb, pp, pt) A b c := br_t h1 (br_t h2 h)
theorem xx_cc1 {post : Int32 → Prop} {A c : Int32} (h1 : ¬ A < 1) (h2 : A < 2) (hq : q < pN) (h6 : pN ≤ 64) (h0 : us q = 0) (h : post 1) : wpX_consChildrenAreValid post (fT, fP, fR, fC, fN, nI pN, fW, cm, sr, fG, pk, ar, tc, t0, t1, hX, kd, pl, pf, ps, us, fi, rp, rg, r1, r2, sb, gl, rb, pp, pt) A (nI q) c := br_f h1 (xx_free_t hq h6 h0 (br_f bm_n10 (br_t h2 h)))
theorem xx_cc1f {post : Int32 → Prop} {A b c : Int32} (h1 : ¬ A < 1) (h6 : pN ≤ 64) (hb : bm_NFree us pN b) (h : post 0) : wpX_consChildrenAreValid post (fT, fP, fR, fC, fN, nI pN, fW, cm, sr, fG, pk, ar, tc, t0, t1, hX, kd, pl, pf, ps, us, fi, rp, rg, r1, r2, sb, gl, rb, pp, pt) A b c := br_f h1 (xx_free_f h6 hb (br_t rfl h))
theorem xx_cc2 {post : Int32 → Prop} {A : Int32} (h1 : ¬ A < 1) (h2 : ¬ A < 2) (hq : q < pN) (h6 : pN ≤ 64) (h0 : us q = 0) (hr : r < pN) (h0' : us r = 0) (hn : ¬ nI r = nI q) (h : post 1) : wpX_consChildrenAreValid post (fT, fP, fR, fC, fN, nI pN, fW, cm, sr, fG, pk, ar, tc, t0, t1, hX, kd, pl, pf, ps, us, fi, rp, rg, r1, r2, sb, gl, rb, pp, pt) A (nI q) (nI r) :=
  br_f h1 (xx_free_t hq h6 h0 (br_f bm_n10 (br_f h2 (xx_free_t hr h6 h0' (br_f bm_n10 (br_f hn h))))))
theorem xx_cc2f {post : Int32 → Prop} {A c : Int32} (h1 : ¬ A < 1) (h2 : ¬ A < 2) (hq : q < pN) (h6 : pN ≤ 64) (h0 : us q = 0) (hc : bm_NFree us pN c) (h : post 0) : wpX_consChildrenAreValid post (fT, fP, fR, fC, fN, nI pN, fW, cm, sr, fG, pk, ar, tc, t0, t1, hX, kd, pl, pf, ps, us, fi, rp, rg, r1, r2, sb, gl, rb, pp, pt) A (nI q) c :=
  br_f h1 (xx_free_t hq h6 h0 (br_f bm_n10 (br_f h2 (xx_free_f h6 hc (br_t rfl h)))))
theorem xx_cc2e {post : Int32 → Prop} {A : Int32} (h1 : ¬ A < 1) (h2 : ¬ A < 2) (hq : q < pN) (h6 : pN ≤ 64) (h0 : us q = 0) (hr : r < pN) (h0' : us r = 0) (hn : nI r = nI q) (h : post 0) : wpX_consChildrenAreValid post (fT, fP, fR, fC, fN, nI pN, fW, cm, sr, fG, pk, ar, tc, t0, t1, hX, kd, pl, pf, ps, us, fi, rp, rg, r1, r2, sb, gl, rb, pp, pt) A (nI q) (nI r) :=
  br_f h1 (xx_free_t hq h6 h0 (br_f bm_n10 (br_f h2 (xx_free_t hr h6 h0' (br_f bm_n10 (br_t hn h))))))
end
theorem i_vc_pat {k : Nat} {u : SX} {v : SY} (I : i_Rel k u v) (hk : k + 5 ≤ 2563) (v1 : Int32) (v2 : Int32) (v3 : Int32) (v4 : Int32) : wpX_pat (fun r u' => wpY_pat (fun r' v' => r' = r ∧ i_Rel (k + 5) u' v') v v1 v2 v3 v4) u v1 v2 v3 v4 := by
  obtain ⟨T, P, R, cN, tN, pN, rN, gN, cm, sr, pk, ar, tc, t0, t1, hX, kd, pl, pf, ps, us, fi, rp, rg, r1, r2, sb, gl, rb, pp, pt, hg, pA, pB, pC, pa, ok, rY, st, H, sz, rfl, rfl, J⟩ := I
  obtain ⟨hJ, hAr, hIP, hIT, hIF, hIR⟩ := id J
  have h8 : cN ≤ 8 := hJ.2.2.2.2.2.2.2
  have h6 := hIP.1
  refine br_c (fun a => br_c (fun b => br_t a (br_t b ⟨rfl, bm_mk J⟩)) (fun b => br_c (fun c => br_t a (br_f b (br_t c ⟨rfl, bm_mk J⟩))) (fun c => br_c (fun d => ?_) (fun d => br_t a (br_f b (br_f c (br_f d ⟨rfl, bm_mk J⟩))))))) (fun a => br_f a ⟨rfl, bm_mk J⟩)
  have hlt : pN < P := by
    have : pN ≠ P := fun e => b (by rw [e])
    omega
  have h64 : pN < 64 := by omega
  have fn : bm_Fr us pN (-1) := Or.inl rfl
  have fs : ∀ q, q < pN → us q = 0 → bm_Fr us pN (nI q) := fun q hq h0 => Or.inr ⟨q, hq, rfl, h0⟩
  have ne : ∀ q r : Nat, q < pN → r < pN → ¬ nI r = nI q → q ≠ r := fun q r _ _ h e => h (by rw [e])
  rcases bm_k4 c d with rfl | rfl | rfl | rfl
  · refine br_t (by decide) (br_f bm_n10 (br_t (by decide) (br_f (by decide) (br_f (by decide) ?_))))
    refine bm_pat_new (hg := hg) (pa := pa) (ok := ok) (rY := rY) (st := st) (k' := k + 5) (A := -1) (B := -1) (C := -1) J hlt fn fn (Or.inl rfl) (Or.inl ⟨pk_us, pk_us, pk_us⟩) (fun u' hR => ?_)
    refine br_t a (br_f b (br_f c (br_t d (br_f (by decide) (br_f (by decide) (br_f (by decide) (br_f (by decide) (yy_215_n (yy_232_n (yy_245 h64 ⟨nI_pred pN, ?_⟩))))))))))
    rw [bm_us0 (us := us) (n := pN)]
    exact hR
  · rcases bm_bad_or (n := 8) (by decide) v2 with z | ⟨x, hx, rfl⟩
    · exact br_f (by decide) (br_f (by decide) (br_t rfl (xx_var_f z (br_t rfl (br_t rfl (br_t a (br_f b (br_f c (br_t d (br_t rfl (br_c (fun _ => ⟨rfl, bm_mk J⟩) (fun w => br_f (bm_nle7 (z.resolve_left w)) ⟨rfl, bm_mk J⟩))))))))))))
    rcases bm_free us h6 v3 with ⟨q, hq, rfl, h0⟩ | z
    · refine br_f (by decide) (br_f (by decide) (br_t rfl (xx_var_t hx (br_f bm_n10 (xx_free_t hq h6 h0 (br_f bm_n10 (br_f bm_n10 (br_f (by decide) (br_f (by decide) (br_t rfl (br_f (by decide) (br_f (by decide) ?_))))))))))))
      refine bm_pat_new (hg := hg) (pa := pa) (ok := ok) (rY := rY) (st := st) (k' := k + 5) (A := nI x) (B := nI q) (C := -1) J hlt (fs q hq h0) fn (Or.inr (Or.inl rfl)) (Or.inr (Or.inl ⟨x, q, pk_us, hx, hq, pk_us, pk_us, pk_us, pk_us, pk_us⟩)) (fun u' hR => ?_)
      refine br_t a (br_f b (br_f c (br_t d (br_t rfl (br_f (bm_nge (by omega)) (br_t (bm_le7 hx) (yy_ch_t hq h6 h0 (br_f bm_n10 (br_f (by decide) (yy_215_s (by decide) (by omega) (yy_232_n (yy_245 h64 ⟨nI_pred pN, ?_⟩))))))))))))
      rw [bm_us1 hq (by omega)]
      exact hR
    · exact br_f (by decide) (br_f (by decide) (br_t rfl (xx_var_t hx (br_f bm_n10 (xx_free_f h6 z (br_t rfl (br_t rfl (br_t a (br_f b (br_f c (br_t d (br_t rfl (br_f (bm_nge (by omega)) (br_t (bm_le7 hx) (yy_ch_f h6 z (br_t rfl ⟨rfl, bm_mk J⟩))))))))))))))))
  · rcases bm_bad_or (n := cN) (by omega) v2 with z | ⟨l, hl, rfl⟩
    · exact br_f (by decide) (br_f (by decide) (br_f (by decide) (br_t rfl (xx_cons_f z (br_t rfl (br_t rfl (br_t a (br_f b (br_f c (br_t d (br_f (by decide) (br_t rfl (br_c (fun _ => ⟨rfl, bm_mk J⟩) (fun w => br_f (Int32.not_lt.mpr (z.resolve_left w)) ⟨rfl, bm_mk J⟩))))))))))))))
    have vl : vp_in (nI l) 8 := vp_in_nI (by omega) (by decide)
    have cl : ∀ A, ar l = A → ar (nI l).toNatClampNeg = A := fun A e => by rw [nI_clamp (by omega), e]
    rcases hAr l hl with ea | ea | ea
    · have e := cl 0 ea
      refine br_f (by decide) (br_f (by decide) (br_f (by decide) (br_t rfl (xx_cons_t hl h8 (br_f bm_n10 ⟨vl, xx_cc0 (by rw [e]; decide) (by rw [e]; decide) (br_f bm_n10 (br_f bm_n10 (br_f (by decide) (br_f (by decide) (br_f (by decide) (br_t rfl ⟨vl, br_t (by rw [e]; decide) (br_t rfl ⟨vl, br_f (by rw [e]; decide) ?_⟩)⟩))))))⟩)))))
      refine bm_pat_new (hg := hg) (pa := pa) (ok := ok) (rY := rY) (st := st) (k' := k + 5) (A := nI l) (B := -1) (C := -1) J hlt fn fn (Or.inl rfl) (Or.inr (Or.inr (Or.inl ⟨l, pk_us, hl, ea, pk_us, pk_us, pk_us, pk_us⟩))) (fun u' hR => ?_)
      refine br_t a (br_f b (br_f c (br_t d (br_f (by decide) (br_t rfl (br_f (bm_nge (by omega)) (br_t (nI_lt hl (by omega)) ⟨vl, nm_r e (br_t (by decide) (br_f (by decide) (br_t (by decide) (br_f (by decide) (br_f (by decide) (yy_215_n (yy_232_n (yy_245 h64 ⟨nI_pred pN, ?_⟩))))))))⟩)))))))
      rw [bm_us0 (us := us) (n := pN)]
      exact hR
    · have e := cl 1 ea
      rcases bm_free us h6 v3 with ⟨q, hq, rfl, h0⟩ | z
      · refine br_f (by decide) (br_f (by decide) (br_f (by decide) (br_t rfl (xx_cons_t hl h8 (br_f bm_n10 ⟨vl, xx_cc1 (by rw [e]; decide) (by rw [e]; decide) hq h6 h0 (br_f bm_n10 (br_f bm_n10 (br_f (by decide) (br_f (by decide) (br_f (by decide) (br_t rfl ⟨vl, br_f (by rw [e]; decide) (br_t rfl ⟨vl, br_f (by rw [e]; decide) ?_⟩)⟩))))))⟩)))))
        refine bm_pat_new (hg := hg) (pa := pa) (ok := ok) (rY := rY) (st := st) (k' := k + 5) (A := nI l) (B := nI q) (C := -1) J hlt (fs q hq h0) fn (Or.inr (Or.inl rfl)) (Or.inr (Or.inr (Or.inr (Or.inl ⟨l, q, pk_us, hl, ea, hq, pk_us, pk_us, pk_us, pk_us, pk_us⟩)))) (fun u' hR => ?_)
        refine br_t a (br_f b (br_f c (br_t d (br_f (by decide) (br_t rfl (br_f (bm_nge (by omega)) (br_t (nI_lt hl (by omega)) ⟨vl, nm_r e (br_f (by decide) (yy_ch_t hq h6 h0 (br_f bm_n10 (br_f (by decide) (br_f (by decide) (br_f (by decide) (br_f (by decide) (yy_215_s (by decide) (by omega) (yy_232_n (yy_245 h64 ⟨nI_pred pN, ?_⟩))))))))))⟩)))))))
        rw [bm_us1 hq (by omega)]
        exact hR
      · exact br_f (by decide) (br_f (by decide) (br_f (by decide) (br_t rfl (xx_cons_t hl h8 (br_f bm_n10 ⟨vl, xx_cc1f (by rw [e]; decide) h6 z (br_t rfl (br_t rfl (br_t a (br_f b (br_f c (br_t d (br_f (by decide) (br_t rfl (br_f (bm_nge (by omega)) (br_t (nI_lt hl (by omega)) ⟨vl, nm_r e (br_f (by decide) (yy_ch_f h6 z (br_t rfl ⟨rfl, bm_mk J⟩)))⟩))))))))))⟩)))))
    · have e := cl 2 ea
      rcases bm_free us h6 v3 with ⟨q, hq, rfl, h0⟩ | z
      · rcases bm_free us h6 v4 with ⟨r, hr, rfl, h0'⟩ | z
        · by_cases en : nI r = nI q
          · exact br_f (by decide) (br_f (by decide) (br_f (by decide) (br_t rfl (xx_cons_t hl h8 (br_f bm_n10 ⟨vl, xx_cc2e (by rw [e]; decide) (by rw [e]; decide) hq h6 h0 hr h0' en (br_t rfl (br_t rfl (br_t a (br_f b (br_f c (br_t d (br_f (by decide) (br_t rfl (br_f (bm_nge (by omega)) (br_t (nI_lt hl (by omega)) ⟨vl, nm_r e (br_f (by decide) (yy_ch_t hq h6 h0 (br_f bm_n10 (br_t rfl (yy_ch_t hr h6 h0' (br_f bm_n10 (br_t en ⟨rfl, bm_mk J⟩)))))))⟩))))))))))⟩)))))
          · refine br_f (by decide) (br_f (by decide) (br_f (by decide) (br_t rfl (xx_cons_t hl h8 (br_f bm_n10 ⟨vl, xx_cc2 (by rw [e]; decide) (by rw [e]; decide) hq h6 h0 hr h0' en (br_f bm_n10 (br_f bm_n10 (br_f (by decide) (br_f (by decide) (br_f (by decide) (br_t rfl ⟨vl, br_f (by rw [e]; decide) (br_t rfl ⟨vl, br_t e ?_⟩)⟩))))))⟩)))))
            refine bm_pat_new (hg := hg) (pa := pa) (ok := ok) (rY := rY) (st := st) (k' := k + 5) (A := nI l) (B := nI q) (C := nI r) J hlt (fs q hq h0) (fs r hr h0') (Or.inr (Or.inr (fun z => en z.symm))) (Or.inr (Or.inr (Or.inr (Or.inr (Or.inl ⟨l, q, r, pk_us, hl, ea, hq, hr, ne q r hq hr en, pk_us, pk_us, pk_us, pk_us, pk_us, pk_us⟩))))) (fun u' hR => ?_)
            refine br_t a (br_f b (br_f c (br_t d (br_f (by decide) (br_t rfl (br_f (bm_nge (by omega)) (br_t (nI_lt hl (by omega)) ⟨vl, nm_r e (br_f (by decide) (yy_ch_t hq h6 h0 (br_f bm_n10 (br_t rfl (yy_ch_t hr h6 h0' (br_f bm_n10 (br_f en (br_f (by decide) (br_t rfl (br_f (by decide) (yy_215_s (by decide) (by omega) (yy_232_s (by omega) (yy_245 h64 ⟨nI_pred pN, ?_⟩)))))))))))))⟩)))))))
            rw [bm_us2 hq hr (by omega)]
            exact hR
        · exact br_f (by decide) (br_f (by decide) (br_f (by decide) (br_t rfl (xx_cons_t hl h8 (br_f bm_n10 ⟨vl, xx_cc2f (by rw [e]; decide) (by rw [e]; decide) hq h6 h0 z (br_t rfl (br_t rfl (br_t a (br_f b (br_f c (br_t d (br_f (by decide) (br_t rfl (br_f (bm_nge (by omega)) (br_t (nI_lt hl (by omega)) ⟨vl, nm_r e (br_f (by decide) (yy_ch_t hq h6 h0 (br_f bm_n10 (br_t rfl (yy_ch_f h6 z (br_t rfl ⟨rfl, bm_mk J⟩))))))⟩))))))))))⟩)))))
      · exact br_f (by decide) (br_f (by decide) (br_f (by decide) (br_t rfl (xx_cons_t hl h8 (br_f bm_n10 ⟨vl, xx_cc1f (by rw [e]; decide) h6 z (br_t rfl (br_t rfl (br_t a (br_f b (br_f c (br_t d (br_f (by decide) (br_t rfl (br_f (bm_nge (by omega)) (br_t (nI_lt hl (by omega)) ⟨vl, nm_r e (br_f (by decide) (yy_ch_f h6 z (br_t rfl ⟨rfl, bm_mk J⟩)))⟩))))))))))⟩)))))
  · rcases bm_free us h6 v2 with ⟨q, hq, rfl, h0⟩ | z
    · rcases bm_free us h6 v3 with ⟨r, hr, rfl, h0'⟩ | z
      · by_cases en : nI q = nI r
        · exact br_f (by decide) (br_f (by decide) (br_f (by decide) (br_f (by decide) (br_t rfl (xx_free_t hq h6 h0 (br_f bm_n10 (xx_free_t hr h6 h0' (br_f bm_n10 (br_t en (br_t rfl (br_t a (br_f b (br_f c (br_t d (br_f (by decide) (br_f (by decide) (br_t rfl (yy_ch_t hq h6 h0 (br_f bm_n10 (yy_ch_t hr h6 h0' (br_f bm_n10 (br_t en ⟨rfl, bm_mk J⟩))))))))))))))))))))))
        · refine br_f (by decide) (br_f (by decide) (br_f (by decide) (br_f (by decide) (br_t rfl (xx_free_t hq h6 h0 (br_f bm_n10 (xx_free_t hr h6 h0' (br_f bm_n10 (br_f en (br_f bm_n10 (br_f (by decide) (br_f (by decide) (br_f (by decide) (br_f (by decide) (br_t rfl (br_f (by decide) (br_t rfl ?_)))))))))))))))))
          refine bm_pat_new (hg := hg) (pa := pa) (ok := ok) (rY := rY) (st := st) (k' := k + 5) (A := nI q) (B := nI r) (C := -1) J hlt (fs q hq h0) (fs r hr h0') (Or.inr (Or.inr en)) (Or.inr (Or.inr (Or.inr (Or.inr (Or.inr ⟨q, r, pk_us, hq, hr, ne q r hq hr (fun z => en z.symm), pk_us, pk_us, pk_us, pk_us⟩))))) (fun u' hR => ?_)
          refine br_t a (br_f b (br_f c (br_t d (br_f (by decide) (br_f (by decide) (br_t rfl (yy_ch_t hq h6 h0 (br_f bm_n10 (yy_ch_t hr h6 h0' (br_f bm_n10 (br_f en (yy_203_o (by omega) (yy_215_s (by decide) (by omega) (yy_232_n (yy_245 h64 ⟨nI_pred pN, ?_⟩)))))))))))))))
          rw [bm_us2 hq hr (by omega)]
          exact hR
      · exact br_f (by decide) (br_f (by decide) (br_f (by decide) (br_f (by decide) (br_t rfl (xx_free_t hq h6 h0 (br_f bm_n10 (xx_free_f h6 z (br_t rfl (br_t rfl (br_t a (br_f b (br_f c (br_t d (br_f (by decide) (br_f (by decide) (br_t rfl (yy_ch_t hq h6 h0 (br_f bm_n10 (yy_ch_f h6 z (br_t rfl ⟨rfl, bm_mk J⟩))))))))))))))))))))
    · exact br_f (by decide) (br_f (by decide) (br_f (by decide) (br_f (by decide) (br_t rfl (xx_free_f h6 z (br_t rfl (br_t rfl (br_t a (br_f b (br_f c (br_t d (br_f (by decide) (br_f (by decide) (br_t rfl (yy_ch_f h6 z (br_t rfl ⟨rfl, bm_mk J⟩))))))))))))))))
end
section
/-! matchPat of the reference -/
theorem bm_kids {ar tc t0 t1 hX : Nat → Int32} {H : Nat → Nat} {cN u c : Nat} (hcN : cN ≤ 8) (hc : c < cN) (h : bm_Tm ar tc t0 t1 hX H cN u) (e : tc u = nI c) :
    (ar c = 1 → ∃ j, j < u ∧ t0 u = nI j) ∧ (ar c = 2 → ∃ j k, j < u ∧ k < u ∧ t0 u = nI j ∧ t1 u = nI k) := by
  obtain ⟨d, hd, td, _, _, _, hk⟩ := h
  have := bm_ar hc hd hcN (e.symm.trans td)
  subst this
  rcases hk with ⟨b1, b2, b3, b4⟩ | ⟨j, b1, b2, b3, b4, b5⟩ | ⟨j, k, b1, b2, b3, b4, b5, b6⟩
  · exact ⟨fun z => absurd (b1.symm.trans z) (by decide), fun z => absurd (b1.symm.trans z) (by decide)⟩
  · exact ⟨fun _ => ⟨j, b3, b4⟩, fun z => absurd (b1.symm.trans z) (by decide)⟩
  · exact ⟨fun z => absurd (b1.symm.trans z) (by decide), fun _ => ⟨j, k, b2, b3, b4, b5⟩⟩
theorem bm_m10 : nI 0 + (-1) = -1 := by decide
section
variable {fT fP fR fC fN fQ fW cm sr fG pk : Int32} {ar tc t0 t1 hX kd pl pf ps us fi rp rg r1 r2 sb gl rb pp pt hg pA pB pC pa ok rY st : Nat → Int32} {H sz : Nat → Nat} {cN pN tN rN root t : Nat}
theorem yy_239 {post : Int32 → SY → Prop} (hcN : cN ≤ 8) (hP : bm_IP ar kd pl pf ps pA pB pC us sz cN pN) (hT : bm_IT ar tc t0 t1 hX H cN tN) (hF : bm_IF kd pl pf ps tc t0 t1 fi pN tN) (hr : root < pN)
    (h1 : bm_I1 kd pl pf ps tc t0 t1 pa tN root 0) (hV : bm_V pa tN) (hpost : ∀ ok', bm_I2 pa ok' fi tN (root + 1) → post (ok' root) (fT, fP, fR, fC, fN, fQ, fW, cm, sr, fG, ar, tc, t0, t1, hg, kd, pA, pB, pC, us, rp, rg, r1, r2, sb, gl, pa, ok', rY, st)) :
    ∀ (d i n : Nat) (ok : Nat → Int32), i + d = root + 1 → d < n → bm_I2 pa ok fi tN i → wY_matchPat_239 post (nI root) fT fP fR fC fN fQ fW cm sr fG n (nI i) ar tc t0 t1 hg kd pA pB pC us rp rg r1 r2 sb gl pa ok rY st := by
  have h6 := hP.1
  have t6 := hT.1
  intro d
  induction d with
  | zero =>
    intro i n ok hi hn h2
    obtain ⟨m, rfl⟩ : ∃ m, n = m + 1 := ⟨n - 1, by omega⟩
    have cr : (nI root).toNatClampNeg = root := nI_clamp (by omega)
    have e : i = root + 1 := by omega
    subst e
    refine br_t (nI_lt (by omega) (by omega)) ⟨vp_in_nI (by omega) (by decide), ?_, ?_⟩
    · rw [cr]
      exact bm_01b (h2.1 root (by omega))
    · rw [cr]
      exact hpost ok h2
  | succ d ih =>
    intro i n ok hi hn h2
    obtain ⟨m, rfl⟩ : ∃ m, n = m + 1 := ⟨n - 1, by omega⟩
    have vi : vp_in (nI i) 64 := vp_in_nI (by omega) (by decide)
    have ci : (nI i).toNatClampNeg = i := nI_clamp (by omega)
    rcases hV i (by omega) with e | ⟨u, hu, e⟩
    · exact br_f (nI_nlt (by omega) (by omega)) ⟨vi, nm_r ((congrArg pa ci).trans e) (br_f bm_n1le (nm_r (nI_1 i) (ih (i + 1) m ok (by omega) (by omega) (bm_I2_n h2 t6 e))))⟩
    · have nx : ∀ v, v = fi (i * 64 + u) → wY_matchPat_239 post (nI root) fT fP fR fC fN fQ fW cm sr fG m (nI (i + 1)) ar tc t0 t1 hg kd pA pB pC us rp rg r1 r2 sb gl pa (upd ok i v) rY st := fun v hv => ih (i + 1) m _ (by omega) (by omega) (bm_I2_s h2 t6 hu e hv hF.1)
      have e0 : upd ok (nI i).toNatClampNeg (vp_nar .boolean 0) = upd ok i 0 := by rw [ci, bm_vb0]
      have e1 : upd ok (nI i).toNatClampNeg (vp_nar .boolean 1) = upd ok i 1 := by rw [ci, bm_vb1]
      have cu : (nI u).toNatClampNeg = u := nI_clamp (by omega)
      have vu : vp_in (nI u) 64 := vp_in_nI (by omega) (by decide)
      have f01 := hF.1
      refine br_f (nI_nlt (by omega) (by omega)) ⟨vi, nm_r ((congrArg pa ci).trans e) (br_t (nI_pos' (by omega)) ⟨vi, ?_⟩)⟩
      rcases bm_L2_of hcN hP hT hF (by omega) hu (h1 i (by omega) (by omega) u hu e) h2 with ⟨ek, g⟩ | ⟨a, ek, ha, eB, g⟩ | ⟨c, ek, hc, ea, eA, g1, g2⟩ | ⟨c, a, ek, hc, ea, ha, eA, eB, g1, g2⟩ | ⟨c, a, b, ek, hc, ea, ha, hb, eA, eB, eC, g1, g2, g3⟩ | ⟨a, b, ek, ha, hb, eA, eB, g1, g2⟩
      · exact nm_r ((congrArg kd ci).trans ek) (br_t rfl ⟨vi, nm_r e1 (nm_r (nI_1 i) (nx 1 g.symm))⟩)
      · have cB : pB (nI i).toNatClampNeg = nI a := by rw [ci, eB]
        have vB : vp_in (pB (nI i).toNatClampNeg) 64 := by
          rw [cB]
          exact vp_in_nI (by omega) (by decide)
        refine nm_r ((congrArg kd ci).trans ek) (br_f (by decide) (br_t rfl ⟨vi, vB, vi, nm_r ?_ (nm_r (nI_1 i) (nx (ok a) g))⟩))
        rw [cB, ci, nI_clamp (by omega), bm_01n (h2.1 a (by omega))]
      · have cA : pA (nI i).toNatClampNeg = nI c := by rw [ci, eA]
        have vA : vp_in (pA (nI i).toNatClampNeg) 8 := by
          rw [cA]
          exact vp_in_nI (by omega) (by decide)
        have eq : ar (pA (nI i).toNatClampNeg).toNatClampNeg = 0 := by rw [cA, nI_clamp (by omega), ea]
        refine nm_r ((congrArg kd ci).trans ek) (br_f (by decide) (br_f (by decide) (br_t rfl ⟨vi, vA, nm_r eq ⟨vu, vi, br_c (fun z => br_t (by decide) (br_t (by decide) ⟨vi, nm_r e1 (nm_r (nI_1 i) (nx 1 (g1 ?_).symm))⟩)) (fun z => ⟨vi, nm_r e0 (nm_r (nI_1 i) (nx 0 (g2 ?_).symm))⟩)⟩⟩)))
        · rw [cu, cA] at z
          exact z
        · rw [cu, cA] at z
          exact z
      · have cA : pA (nI i).toNatClampNeg = nI c := by rw [ci, eA]
        have vA : vp_in (pA (nI i).toNatClampNeg) 8 := by
          rw [cA]
          exact vp_in_nI (by omega) (by decide)
        have cB : pB (nI i).toNatClampNeg = nI a := by rw [ci, eB]
        have vB : vp_in (pB (nI i).toNatClampNeg) 64 := by
          rw [cB]
          exact vp_in_nI (by omega) (by decide)
        have cO : ok (pB (nI i).toNatClampNeg).toNatClampNeg = ok a := by rw [cB, nI_clamp (by omega)]
        have eq : ar (pA (nI i).toNatClampNeg).toNatClampNeg = 1 := by rw [cA, nI_clamp (by omega), ea]
        refine nm_r ((congrArg kd ci).trans ek) (br_f (by decide) (br_f (by decide) (br_t rfl ⟨vi, vA, nm_r eq ⟨vu, vi, br_c (fun z => br_f (by decide) ⟨vi, vB, br_c (fun w => ⟨vi, nm_r e0 (nm_r (nI_1 i) (nx 0 ?_))⟩) (fun w => br_t (by decide) ⟨vi, nm_r e1 (nm_r (nI_1 i) (nx 1 ?_))⟩)⟩) (fun z => ⟨vi, nm_r e0 (nm_r (nI_1 i) (nx 0 (g2 ?_).symm))⟩)⟩⟩)))
        · rw [cu, cA] at z
          rw [cO] at w
          rw [← g1 z, w]
        · rw [cu, cA] at z
          rw [cO] at w
          rw [← g1 z]
          exact (bm_01t (h2.1 a (by omega)) w).symm
        · rw [cu, cA] at z
          exact z
      · have cA : pA (nI i).toNatClampNeg = nI c := by rw [ci, eA]
        have vA : vp_in (pA (nI i).toNatClampNeg) 8 := by
          rw [cA]
          exact vp_in_nI (by omega) (by decide)
        have cB : pB (nI i).toNatClampNeg = nI a := by rw [ci, eB]
        have vB : vp_in (pB (nI i).toNatClampNeg) 64 := by
          rw [cB]
          exact vp_in_nI (by omega) (by decide)
        have cC : pC (nI i).toNatClampNeg = nI b := by rw [ci, eC]
        have vC : vp_in (pC (nI i).toNatClampNeg) 64 := by
          rw [cC]
          exact vp_in_nI (by omega) (by decide)
        have cO : ok (pB (nI i).toNatClampNeg).toNatClampNeg = ok a := by rw [cB, nI_clamp (by omega)]
        have cP : ok (pC (nI i).toNatClampNeg).toNatClampNeg = ok b := by rw [cC, nI_clamp (by omega)]
        have eq : ar (pA (nI i).toNatClampNeg).toNatClampNeg = 2 := by rw [cA, nI_clamp (by omega), ea]
        refine nm_r ((congrArg kd ci).trans ek) (br_f (by decide) (br_f (by decide) (br_t rfl ⟨vi, vA, nm_r eq ⟨vu, vi, br_c (fun z => br_f (by decide) ⟨vi, vB, br_c (fun w => ⟨vi, nm_r e0 (nm_r (nI_1 i) (nx 0 ?_))⟩) (fun w => br_f (by decide) ⟨vi, vC, br_c (fun y => ⟨vi, nm_r e0 (nm_r (nI_1 i) (nx 0 ?_))⟩) (fun y => ⟨vi, nm_r e1 (nm_r (nI_1 i) (nx 1 ?_))⟩)⟩)⟩) (fun z => ⟨vi, nm_r e0 (nm_r (nI_1 i) (nx 0 (g3 ?_).symm))⟩)⟩⟩)))
        · rw [cu, cA] at z
          rw [cO] at w
          exact (g1 z w).symm
        · rw [cu, cA] at z
          rw [cO] at w
          rw [cP] at y
          rw [← g2 z w, y]
        · rw [cu, cA] at z
          rw [cO] at w
          rw [cP] at y
          rw [← g2 z w]
          exact (bm_01t (h2.1 b (by omega)) y).symm
        · rw [cu, cA] at z
          exact z
      · have cA : pA (nI i).toNatClampNeg = nI a := by rw [ci, eA]
        have vA : vp_in (pA (nI i).toNatClampNeg) 64 := by
          rw [cA]
          exact vp_in_nI (by omega) (by decide)
        have cB : pB (nI i).toNatClampNeg = nI b := by rw [ci, eB]
        have vB : vp_in (pB (nI i).toNatClampNeg) 64 := by
          rw [cB]
          exact vp_in_nI (by omega) (by decide)
        have cO : ok (pA (nI i).toNatClampNeg).toNatClampNeg = ok a := by rw [cA, nI_clamp (by omega)]
        have cP : ok (pB (nI i).toNatClampNeg).toNatClampNeg = ok b := by rw [cB, nI_clamp (by omega)]
        refine nm_r ((congrArg kd ci).trans ek) (br_f (by decide) (br_f (by decide) (br_f (by decide) ⟨vi, vA, br_c (fun w => ⟨vi, vB, br_c (fun y => ⟨vi, nm_r e0 (nm_r (nI_1 i) (nx 0 ?_))⟩) (fun y => ⟨vi, nm_r e1 (nm_r (nI_1 i) (nx 1 ?_))⟩)⟩) (fun w => ⟨vi, nm_r e1 (nm_r (nI_1 i) (nx 1 ?_))⟩)⟩)))
        · rw [cO] at w
          rw [cP] at y
          rw [← g2 w, y]
        · rw [cO] at w
          rw [cP] at y
          rw [← g2 w]
          exact (bm_01t (h2.1 b (by omega)) y).symm
        · rw [cO] at w
          exact (g1 w).symm
theorem yy_63 {post : Int32 → SY → Prop} (hcN : cN ≤ 8) (hP : bm_IP ar kd pl pf ps pA pB pC us sz cN pN) (hT : bm_IT ar tc t0 t1 hX H cN tN) (hr : root < pN)
    (hpost : ∀ pa', bm_V pa' tN → pa' root = nI t → bm_I1 kd pl pf ps tc t0 t1 pa' tN root 0 → ∃ n, wY_matchPat_239 post (nI root) fT fP fR fC fN fQ fW cm sr fG n 0 ar tc t0 t1 hg kd pA pB pC us rp rg r1 r2 sb gl pa' ok rY st) :
    ∀ (q n : Nat) (pa : Nat → Int32), q + 1 < n → q ≤ root → bm_V pa tN → pa root = nI t → bm_I1 kd pl pf ps tc t0 t1 pa tN root (q + 1) → wY_matchPat_63 post (nI root) fT fP fR fC fN fQ fW cm sr fG n (nI q) ar tc t0 t1 hg kd pA pB pC us rp rg r1 r2 sb gl pa ok rY st := by
  have h6 := hP.1
  have t6 := hT.1
  have hNd := hP.2.1
  intro q
  induction q with
  | zero =>
    intro n pa hn hq hV hrt hI
    obtain ⟨m, rfl⟩ : ∃ m, n = m + 1 + 1 := ⟨n - 2, by omega⟩
    have fin : ∀ pa', bm_V pa' tN → pa' root = nI t → bm_I1 kd pl pf ps tc t0 t1 pa' tN root 0 → ∀ x, x = nI 0 + (-1) → wY_matchPat_63 post (nI root) fT fP fR fC fN fQ fW cm sr fG (m + 1) x ar tc t0 t1 hg kd pA pB pC us rp rg r1 r2 sb gl pa' ok rY st := fun pa' a b c => nm_r bm_m10 (br_t bm_n1lt (hpost pa' a b c))
    have vi : vp_in (nI 0) 64 := vp_in_nI (by omega) (by decide)
    have ci : (nI 0).toNatClampNeg = 0 := nI_clamp (by omega)
    rcases hV 0 (by omega) with e | ⟨u, hu, e⟩
    · exact br_f (bm_nge (by omega)) ⟨vi, nm_r ((congrArg pa ci).trans e) (br_f bm_n1le (fin pa hV hrt (bm_I1_same hP hr hq hI (fun u hu e' => absurd (e.symm.trans e') (bm_ne1' (by omega))))))⟩
    · have cu : (nI u).toNatClampNeg = u := nI_clamp (by omega)
      have vu : vp_in (nI u) 64 := vp_in_nI (by omega) (by decide)
      refine br_f (bm_nge (by omega)) ⟨vi, nm_r ((congrArg pa ci).trans e) (br_t (nI_pos' (by omega)) ⟨vi, ?_⟩)⟩
      rcases hNd 0 (by omega) with ⟨ek, e1, e2⟩ | ⟨y, a, _, _, ha, _⟩ | ⟨c, ek, hc, ea, el, e1, e2, eA⟩ | ⟨c, a, _, _, _, ha, _⟩ | ⟨c, a, b, _, _, _, ha, _⟩ | ⟨a, b, _, ha, _⟩
      · exact nm_r ((congrArg kd ci).trans ek) (br_f (by decide) (br_f (by decide) (br_f (by decide) (fin pa hV hrt (bm_I1_same hP hr hq hI (fun _ _ _ => bm_Cd_0 ek))))))
      · omega
      · have cA : pA (nI 0).toNatClampNeg = nI c := by rw [ci, eA]
        have vA : vp_in (pA (nI 0).toNatClampNeg) 8 := by
          rw [cA]
          exact vp_in_nI (by omega) (by decide)
        have eq : ar (pA (nI 0).toNatClampNeg).toNatClampNeg = 0 := by rw [cA, nI_clamp (by omega), ea]
        have st := fin pa hV hrt (bm_I1_same hP hr hq hI (fun _ _ _ => bm_Cd_2 ek (fun _ => ⟨Or.inl e1, Or.inl e2⟩)))
        exact nm_r ((congrArg kd ci).trans ek) (br_f (by decide) (br_t rfl ⟨vu, vi, br_c (fun z => ⟨vi, vA, nm_r eq (br_t (by decide) (br_f (by decide) st))⟩) (fun z => st)⟩))
      · omega
      · omega
      · omega
  | succ q ih =>
    intro n pa hn hq hV hrt hI
    obtain ⟨m, rfl⟩ : ∃ m, n = m + 1 := ⟨n - 1, by omega⟩
    have fin : ∀ pa', bm_V pa' tN → pa' root = nI t → bm_I1 kd pl pf ps tc t0 t1 pa' tN root (q + 1) → ∀ x, x = nI (q + 1) + (-1) → wY_matchPat_63 post (nI root) fT fP fR fC fN fQ fW cm sr fG m x ar tc t0 t1 hg kd pA pB pC us rp rg r1 r2 sb gl pa' ok rY st := fun pa' a b c => nm_r (pk_m1 q) (ih m pa' (by omega) (by omega) a b c)
    have vi : vp_in (nI (q + 1)) 64 := vp_in_nI (by omega) (by decide)
    have ci : (nI (q + 1)).toNatClampNeg = q + 1 := nI_clamp (by omega)
    have rt : ∀ a v, a < q + 1 → upd pa a v root = nI t := fun a v ha => by
      rw [pk_un (by omega)]
      exact hrt
    rcases hV (q + 1) (by omega) with e | ⟨u, hu, e⟩
    · exact br_f (bm_nge (by omega)) ⟨vi, nm_r ((congrArg pa ci).trans e) (br_f bm_n1le (fin pa hV hrt (bm_I1_same hP hr hq hI (fun u hu e' => absurd (e.symm.trans e') (bm_ne1' (by omega))))))⟩
    · have cu : (nI u).toNatClampNeg = u := nI_clamp (by omega)
      have vu : vp_in (nI u) 64 := vp_in_nI (by omega) (by decide)
      refine br_f (bm_nge (by omega)) ⟨vi, nm_r ((congrArg pa ci).trans e) (br_t (nI_pos' (by omega)) ⟨vi, ?_⟩)⟩
      rcases hNd (q + 1) (by omega) with ⟨ek, e1, e2⟩ | ⟨y, a, ek, _, ha, _, e1, e2, _, eB⟩ | ⟨c, ek, hc, ea, el, e1, e2, eA⟩ | ⟨c, a, ek, hc, ea, ha, el, e1, e2, eA, eB⟩ | ⟨c, a, b, ek, hc, ea, ha, hb, hab, el, e1, e2, eA, eB, eC⟩ | ⟨a, b, ek, ha, hb, _, e1, e2, eA, eB⟩
      · exact nm_r ((congrArg kd ci).trans ek) (br_f (by decide) (br_f (by decide) (br_f (by decide) (fin pa hV hrt (bm_I1_same hP hr hq hI (fun _ _ _ => bm_Cd_0 ek))))))
      · have cB : pB (nI (q + 1)).toNatClampNeg = nI a := by rw [ci, eB]
        have vB : vp_in (pB (nI (q + 1)).toNatClampNeg) 64 := by
          rw [cB]
          exact vp_in_nI (by omega) (by decide)
        refine nm_r ((congrArg kd ci).trans ek) (br_t rfl ⟨vi, vB, nm_r ?_ (fin _ (bm_V_u hV (Or.inr ⟨u, hu, rfl⟩)) (rt a _ ha) (bm_I1_as hP t6 hr hq hI hu e ek e1 ha))⟩)
        rw [cB, nI_clamp (by omega)]
      · have cA : pA (nI (q + 1)).toNatClampNeg = nI c := by rw [ci, eA]
        have vA : vp_in (pA (nI (q + 1)).toNatClampNeg) 8 := by
          rw [cA]
          exact vp_in_nI (by omega) (by decide)
        have eq : ar (pA (nI (q + 1)).toNatClampNeg).toNatClampNeg = 0 := by rw [cA, nI_clamp (by omega), ea]
        have st := fin pa hV hrt (bm_I1_same hP hr hq hI (fun _ _ _ => bm_Cd_2 ek (fun _ => ⟨Or.inl e1, Or.inl e2⟩)))
        exact nm_r ((congrArg kd ci).trans ek) (br_f (by decide) (br_t rfl ⟨vu, vi, br_c (fun z => ⟨vi, vA, nm_r eq (br_t (by decide) (br_f (by decide) st))⟩) (fun z => st)⟩))
      · have cA : pA (nI (q + 1)).toNatClampNeg = nI c := by rw [ci, eA]
        have vA : vp_in (pA (nI (q + 1)).toNatClampNeg) 8 := by
          rw [cA]
          exact vp_in_nI (by omega) (by decide)
        have cB : pB (nI (q + 1)).toNatClampNeg = nI a := by rw [ci, eB]
        have vB : vp_in (pB (nI (q + 1)).toNatClampNeg) 64 := by
          rw [cB]
          exact vp_in_nI (by omega) (by decide)
        have eq : ar (pA (nI (q + 1)).toNatClampNeg).toNatClampNeg = 1 := by rw [cA, nI_clamp (by omega), ea]
        refine nm_r ((congrArg kd ci).trans ek) (br_f (by decide) (br_t rfl ⟨vu, vi, br_c (fun z => ⟨vi, vA, nm_r eq (br_f (by decide) ⟨vi, vu, vB, nm_r (e' := upd pa a (t0 u)) ?_ (br_f (by decide) ?_)⟩)⟩) (fun z => ?_)⟩))
        · rw [cB, cu, nI_clamp (by omega)]
        · rw [cu, cA] at z
          obtain ⟨j, hj, ej⟩ := (bm_kids hcN hc (hT.2 u hu) z).1 ea
          exact fin _ (bm_V_u hV (Or.inr ⟨j, by omega, ej⟩)) (rt a _ ha) (bm_I1_c1 hP t6 hr hq hI hu e ek e1 ha e2)
        · rw [cu, cA] at z
          refine fin pa hV hrt (bm_I1_same hP hr hq hI (fun u' hu' e' => bm_Cd_2 ek (fun y => ?_)))
          have := bm_u1 t6 hu hu' e e'
          subst this
          rw [el] at y
          exact absurd y.symm z
      · have cA : pA (nI (q + 1)).toNatClampNeg = nI c := by rw [ci, eA]
        have vA : vp_in (pA (nI (q + 1)).toNatClampNeg) 8 := by
          rw [cA]
          exact vp_in_nI (by omega) (by decide)
        have cB : pB (nI (q + 1)).toNatClampNeg = nI a := by rw [ci, eB]
        have vB : vp_in (pB (nI (q + 1)).toNatClampNeg) 64 := by
          rw [cB]
          exact vp_in_nI (by omega) (by decide)
        have cC : pC (nI (q + 1)).toNatClampNeg = nI b := by rw [ci, eC]
        have vC : vp_in (pC (nI (q + 1)).toNatClampNeg) 64 := by
          rw [cC]
          exact vp_in_nI (by omega) (by decide)
        have eq : ar (pA (nI (q + 1)).toNatClampNeg).toNatClampNeg = 2 := by rw [cA, nI_clamp (by omega), ea]
        refine nm_r ((congrArg kd ci).trans ek) (br_f (by decide) (br_t rfl ⟨vu, vi, br_c (fun z => ⟨vi, vA, nm_r eq (br_f (by decide) ⟨vi, vu, vB, nm_r (e' := upd pa a (t0 u)) ?_ (br_t rfl ⟨vi, vu, vC, nm_r (e' := upd (upd pa a (t0 u)) b (t1 u)) ?_ ?_⟩)⟩)⟩) (fun z => ?_)⟩))
        · rw [cB, cu, nI_clamp (by omega)]
        · rw [cC, cu, nI_clamp (by omega)]
        · rw [cu, cA] at z
          obtain ⟨j, l, hj, hl, ej, el'⟩ := (bm_kids hcN hc (hT.2 u hu) z).2 ea
          refine fin _ (bm_V_u (bm_V_u hV (Or.inr ⟨j, by omega, ej⟩)) (Or.inr ⟨l, by omega, el'⟩)) ?_ (bm_I1_c2 hP t6 hr hq hI hu e ek e1 ha e2 hb hab)
          rw [pk_un (by omega)]
          exact rt a _ ha
        · rw [cu, cA] at z
          refine fin pa hV hrt (bm_I1_same hP hr hq hI (fun u' hu' e' => bm_Cd_2 ek (fun y => ?_)))
          have := bm_u1 t6 hu hu' e e'
          subst this
          rw [el] at y
          exact absurd y.symm z
      · have cA : pA (nI (q + 1)).toNatClampNeg = nI a := by rw [ci, eA]
        have vA : vp_in (pA (nI (q + 1)).toNatClampNeg) 64 := by
          rw [cA]
          exact vp_in_nI (by omega) (by decide)
        have cB : pB (nI (q + 1)).toNatClampNeg = nI b := by rw [ci, eB]
        have vB : vp_in (pB (nI (q + 1)).toNatClampNeg) 64 := by
          rw [cB]
          exact vp_in_nI (by omega) (by decide)
        refine nm_r ((congrArg kd ci).trans ek) (br_f (by decide) (br_f (by decide) (br_t rfl ⟨vi, vA, nm_r (e' := upd pa a (nI u)) ?_ ⟨vi, vB, nm_r (e' := upd (upd pa a (nI u)) b (nI u)) ?_ (fin _ (bm_V_u (bm_V_u hV (Or.inr ⟨u, hu, rfl⟩)) (Or.inr ⟨u, hu, rfl⟩)) ?_ (bm_I1_or hP t6 hr hq hI hu e ek e1 ha e2 hb))⟩⟩)))
        · rw [cA, nI_clamp (by omega)]
        · rw [cB, nI_clamp (by omega)]
        · rw [pk_un (by omega)]
          exact rt a _ ha
theorem yy_m2 {post : Int32 → SY → Prop} (h6 : pN ≤ 64) (t6 : tN ≤ 64) (hr : root < pN) (ht : t < tN)
    (h : ∃ n, wY_matchPat_63 post (nI root) fT fP fR fC (nI tN) (nI pN) fW cm sr fG n (nI root) ar tc t0 t1 hg kd pA pB pC us rp rg r1 r2 sb gl (upd (bm_clr (-1) 64 pa) root (nI t)) (bm_clr 0 64 ok) rY st) :
    ∀ (d i n : Nat), i + d = 64 → d < n → wY_matchPat_2 post (nI root) (nI t) fT fP fR fC (nI tN) (nI pN) fW cm sr fG n (nI i) ar tc t0 t1 hg kd pA pB pC us rp rg r1 r2 sb gl (bm_clr (-1) i pa) (bm_clr 0 i ok) rY st := by
  intro d
  induction d with
  | zero =>
    intro i n hi hn
    obtain ⟨m, rfl⟩ : ∃ m, n = m + 1 := ⟨n - 1, by omega⟩
    have e : i = 64 := by omega
    subst e
    exact br_t (nI_le (a := 64) (Nat.le_refl _) (by decide)) (br_f (bm_nge (by omega)) (br_f (nI_ge hr (by omega)) (br_f (bm_nge (by omega)) (br_t (nI_lt ht (by omega)) ⟨vp_in_nI (by omega) (by decide), nm_r (bm_uq (by omega)) h⟩))))
  | succ d ih =>
    intro i n hi hn
    obtain ⟨m, rfl⟩ : ∃ m, n = m + 1 := ⟨n - 1, by omega⟩
    have vi : vp_in (nI i) 64 := vp_in_nI (by omega) (by decide)
    refine br_f (nI_ge (b := 64) (by omega) (by decide)) ⟨vi, nm_r ((bm_uq (by omega)).trans bm_clr_s) ⟨vi, nm_r ?_ (nm_r (nI_1 i) (ih (i + 1) m (by omega) (by omega)))⟩⟩
    rw [bm_vb0]
    exact (bm_uq (by omega)).trans bm_clr_s
theorem yy_matchPat {post : Int32 → SY → Prop} (hcN : cN ≤ 8) (hP : bm_IP ar kd pl pf ps pA pB pC us sz cN pN) (hT : bm_IT ar tc t0 t1 hX H cN tN) (hF : bm_IF kd pl pf ps tc t0 t1 fi pN tN) (hr : root < pN) (ht : t < tN)
    (hpost : ∀ pa' ok', bm_MP kd pl pf ps tc t0 t1 fi pa' ok' tN root t → post (fi (root * 64 + t)) (fT, fP, fR, fC, nI tN, nI pN, fW, cm, sr, fG, ar, tc, t0, t1, hg, kd, pA, pB, pC, us, rp, rg, r1, r2, sb, gl, pa', ok', rY, st)) : wpY_matchPat post (fT, fP, fR, fC, nI tN, nI pN, fW, cm, sr, fG, ar, tc, t0, t1, hg, kd, pA, pB, pC, us, rp, rg, r1, r2, sb, gl, pa, ok, rY, st) (nI root) (nI t) := by
  have h6 := hP.1
  have t6 := hT.1
  have L : ∃ n, wY_matchPat_63 post (nI root) fT fP fR fC (nI tN) (nI pN) fW cm sr fG n (nI root) ar tc t0 t1 hg kd pA pB pC us rp rg r1 r2 sb gl (upd (bm_clr (-1) 64 pa) root (nI t)) (bm_clr 0 64 ok) rY st := by
    refine ⟨root + 2, yy_63 (t := t) hcN hP hT hr (fun pa' hV hrt hI => ⟨root + 2, yy_239 hcN hP hT hF hr hI hV (fun ok' h2 => ?_) (root + 1) 0 (root + 2) _ (by omega) (by omega) ?_⟩) root (root + 2) _ (by omega) (Nat.le_refl _) ?_ pk_us ?_⟩
    · rw [h2.2 root (by omega) t ht hrt]
      exact hpost pa' ok' ⟨hrt, hI, h2⟩
    · refine ⟨fun j hj => ?_, fun q hq => absurd hq (Nat.not_lt_zero _)⟩
      rw [bm_clr_l hj]
      exact Or.inl rfl
    · refine bm_V_u (fun i hi => ?_) (Or.inr ⟨t, ht, rfl⟩)
      rw [bm_clr_l hi]
      exact Or.inl rfl
    · intro q hq hq'
      omega
  have K := yy_m2 h6 t6 hr ht L 64 0 65 (by omega) (by omega)
  rw [bm_clr0, bm_clr0] at K
  exact ⟨65, K⟩
end
end
section
/-! bindRow of the component -/
section
variable {fT fP fR fC fN fQ fW cm sr fG pk : Int32} {ar tc t0 t1 hX kd pl pf ps us fi rp rg r1 r2 sb gl rb pp pt hg pA pB pC pa ok rY st : Nat → Int32} {H sz : Nat → Nat} {cN pN tN rN root t k q a b j i : Nat}
theorem xx_add_n {post : SX → Prop} {p1 : Int32} (h : post (fT, fP, fR, fC, fN, fQ, fW, cm, sr, fG, pk, ar, tc, t0, t1, hX, kd, pl, pf, ps, us, fi, rp, rg, r1, r2, sb, gl, rb, pp, pt)) : wpX_addPending post (fT, fP, fR, fC, fN, fQ, fW, cm, sr, fG, pk, ar, tc, t0, t1, hX, kd, pl, pf, ps, us, fi, rp, rg, r1, r2, sb, gl, rb, pp, pt) (-1) p1 := br_t rfl h
theorem xx_add {post : SX → Prop} {p1 : Int32} (ha : a < 64) (hk : k < 64) (e : p1 = nI b) (h : post (fT, fP, fR, fC, fN, fQ, fW, cm, sr, fG, nI (k + 1), ar, tc, t0, t1, hX, kd, pl, pf, ps, us, fi, rp, rg, r1, r2, sb, gl, rb, upd pp k (nI a), upd pt k (nI b))) : wpX_addPending post (fT, fP, fR, fC, fN, fQ, fW, cm, sr, fG, nI k, ar, tc, t0, t1, hX, kd, pl, pf, ps, us, fi, rp, rg, r1, r2, sb, gl, rb, pp, pt) (nI a) p1 := by
  subst e
  have vk : vp_in (nI k) 64 := vp_in_nI hk (by decide)
  exact br_f (bm_ne1 (by omega)) (br_f (nI_ge (b := 64) hk (by decide)) ⟨vk, nm_r (bm_uq (by omega)) ⟨vk, nm_r (bm_uq (by omega)) (nm_r (nI_1 k) h)⟩⟩)
theorem xx_bind_t {post : SX → Prop} {p1 : Int32} {y : Nat} (hy : y < 8) (h0 : rb y = -1) (h : post (fT, fP, fR, fC, fN, fQ, fW, cm, sr, fG, pk, ar, tc, t0, t1, hX, kd, pl, pf, ps, us, fi, rp, rg, r1, r2, sb, gl, upd rb y p1, pp, pt)) : wpX_bindIfUnbound post (fT, fP, fR, fC, fN, fQ, fW, cm, sr, fG, pk, ar, tc, t0, t1, hX, kd, pl, pf, ps, us, fi, rp, rg, r1, r2, sb, gl, rb, pp, pt) (nI y) p1 := by
  have vy : vp_in (nI y) 8 := vp_in_nI hy (by decide)
  exact ⟨vy, br_t (by rw [nI_clamp (by omega)]; exact h0) ⟨vy, nm_r (bm_uq (by omega)) h⟩⟩
theorem xx_bind_f {post : SX → Prop} {p1 : Int32} {y : Nat} (hy : y < 8) (h0 : ¬ rb y = -1) (h : post (fT, fP, fR, fC, fN, fQ, fW, cm, sr, fG, pk, ar, tc, t0, t1, hX, kd, pl, pf, ps, us, fi, rp, rg, r1, r2, sb, gl, rb, pp, pt)) : wpX_bindIfUnbound post (fT, fP, fR, fC, fN, fQ, fW, cm, sr, fG, pk, ar, tc, t0, t1, hX, kd, pl, pf, ps, us, fi, rp, rg, r1, r2, sb, gl, rb, pp, pt) (nI y) p1 := by
  have vy : vp_in (nI y) 8 := vp_in_nI hy (by decide)
  exact ⟨vy, br_f (by rw [nI_clamp (by omega)]; exact h0) h⟩
theorem xx_v0 {post : SX → Prop} (hq : q < 64) (ek : kd q = 0) (h : post (fT, fP, fR, fC, fN, fQ, fW, cm, sr, fG, pk, ar, tc, t0, t1, hX, kd, pl, pf, ps, us, fi, rp, rg, r1, r2, sb, gl, rb, pp, pt)) : wpX_visit post (fT, fP, fR, fC, fN, fQ, fW, cm, sr, fG, pk, ar, tc, t0, t1, hX, kd, pl, pf, ps, us, fi, rp, rg, r1, r2, sb, gl, rb, pp, pt) (nI q) (nI t) := by
  have vi : vp_in (nI q) 64 := vp_in_nI hq (by decide)
  have cq : (nI q).toNatClampNeg = q := nI_clamp (by omega)
  exact ⟨vi, nm_e ⟨vi, nm_e ⟨vi, nm_r ((congrArg kd cq).trans ek) (br_t (by decide) h)⟩⟩⟩
theorem xx_v1 {post : SX → Prop} {y : Nat} (hq : q < 64) (hk : k < 64) (hy : y < 8) (ha : a < 64) (ek : kd q = 1) (el : pl q = nI y) (e1 : pf q = nI a)
    (h0 : ¬ rb y = -1 → post (fT, fP, fR, fC, fN, fQ, fW, cm, sr, fG, nI (k + 1), ar, tc, t0, t1, hX, kd, pl, pf, ps, us, fi, rp, rg, r1, r2, sb, gl, rb, upd pp k (nI a), upd pt k (nI t))) (h1 : rb y = -1 → post (fT, fP, fR, fC, fN, fQ, fW, cm, sr, fG, nI (k + 1), ar, tc, t0, t1, hX, kd, pl, pf, ps, us, fi, rp, rg, r1, r2, sb, gl, upd rb y (nI t), upd pp k (nI a), upd pt k (nI t))) : wpX_visit post (fT, fP, fR, fC, fN, fQ, fW, cm, sr, fG, nI k, ar, tc, t0, t1, hX, kd, pl, pf, ps, us, fi, rp, rg, r1, r2, sb, gl, rb, pp, pt) (nI q) (nI t) := by
  have vi : vp_in (nI q) 64 := vp_in_nI hq (by decide)
  have cq : (nI q).toNatClampNeg = q := nI_clamp (by omega)
  refine ⟨vi, nm_r ((congrArg pf cq).trans e1) ⟨vi, nm_e ⟨vi, nm_r ((congrArg kd cq).trans ek) (br_f (by decide) (br_f (by decide) (br_t rfl ⟨vi, ?_⟩)))⟩⟩⟩
  rw [cq, el]
  by_cases z : rb y = -1
  · exact xx_bind_t hy z (xx_add ha hk rfl (h1 z))
  · exact xx_bind_f hy z (xx_add ha hk rfl (h0 z))
theorem xx_v20 {post : SX → Prop} (hq : q < 64) (ht : t < 64) (ek : kd q = 2) (e1 : pf q = -1) (e2 : ps q = -1) (h : post (fT, fP, fR, fC, fN, fQ, fW, cm, sr, fG, pk, ar, tc, t0, t1, hX, kd, pl, pf, ps, us, fi, rp, rg, r1, r2, sb, gl, rb, pp, pt)) : wpX_visit post (fT, fP, fR, fC, fN, fQ, fW, cm, sr, fG, pk, ar, tc, t0, t1, hX, kd, pl, pf, ps, us, fi, rp, rg, r1, r2, sb, gl, rb, pp, pt) (nI q) (nI t) := by
  have vi : vp_in (nI q) 64 := vp_in_nI hq (by decide)
  have vt : vp_in (nI t) 64 := vp_in_nI ht (by decide)
  have cq : (nI q).toNatClampNeg = q := nI_clamp (by omega)
  exact ⟨vi, nm_r ((congrArg pf cq).trans e1) ⟨vi, nm_r ((congrArg ps cq).trans e2) ⟨vi, nm_r ((congrArg kd cq).trans ek) (br_f (by decide) (br_f (by decide) (br_f (by decide) (br_t rfl ⟨vt, xx_add_n ⟨vt, xx_add_n h⟩⟩))))⟩⟩⟩
theorem xx_v21 {post : SX → Prop} (hq : q < 64) (ht : t < 64) (hk : k < 64) (ha : a < 64) (ek : kd q = 2) (e1 : pf q = nI a) (e2 : ps q = -1) (et : t0 t = nI j) (h : post (fT, fP, fR, fC, fN, fQ, fW, cm, sr, fG, nI (k + 1), ar, tc, t0, t1, hX, kd, pl, pf, ps, us, fi, rp, rg, r1, r2, sb, gl, rb, upd pp k (nI a), upd pt k (nI j))) : wpX_visit post (fT, fP, fR, fC, fN, fQ, fW, cm, sr, fG, nI k, ar, tc, t0, t1, hX, kd, pl, pf, ps, us, fi, rp, rg, r1, r2, sb, gl, rb, pp, pt) (nI q) (nI t) := by
  have vi : vp_in (nI q) 64 := vp_in_nI hq (by decide)
  have vt : vp_in (nI t) 64 := vp_in_nI ht (by decide)
  have cq : (nI q).toNatClampNeg = q := nI_clamp (by omega)
  have ct : (nI t).toNatClampNeg = t := nI_clamp (by omega)
  exact ⟨vi, nm_r ((congrArg pf cq).trans e1) ⟨vi, nm_r ((congrArg ps cq).trans e2) ⟨vi, nm_r ((congrArg kd cq).trans ek) (br_f (by decide) (br_f (by decide) (br_f (by decide) (br_t rfl ⟨vt, xx_add ha hk ((congrArg t0 ct).trans et) ⟨vt, xx_add_n h⟩⟩))))⟩⟩⟩
theorem xx_v22 {post : SX → Prop} (hq : q < 64) (ht : t < 64) (hk : k + 1 < 64) (ha : a < 64) (hb : b < 64) (ek : kd q = 2) (e1 : pf q = nI a) (e2 : ps q = nI b) (et : t0 t = nI j) (eu : t1 t = nI i) (h : post (fT, fP, fR, fC, fN, fQ, fW, cm, sr, fG, nI (k + 1 + 1), ar, tc, t0, t1, hX, kd, pl, pf, ps, us, fi, rp, rg, r1, r2, sb, gl, rb, upd (upd pp k (nI a)) (k + 1) (nI b), upd (upd pt k (nI j)) (k + 1) (nI i))) : wpX_visit post (fT, fP, fR, fC, fN, fQ, fW, cm, sr, fG, nI k, ar, tc, t0, t1, hX, kd, pl, pf, ps, us, fi, rp, rg, r1, r2, sb, gl, rb, pp, pt) (nI q) (nI t) := by
  have vi : vp_in (nI q) 64 := vp_in_nI hq (by decide)
  have vt : vp_in (nI t) 64 := vp_in_nI ht (by decide)
  have cq : (nI q).toNatClampNeg = q := nI_clamp (by omega)
  have ct : (nI t).toNatClampNeg = t := nI_clamp (by omega)
  exact ⟨vi, nm_r ((congrArg pf cq).trans e1) ⟨vi, nm_r ((congrArg ps cq).trans e2) ⟨vi, nm_r ((congrArg kd cq).trans ek) (br_f (by decide) (br_f (by decide) (br_f (by decide) (br_t rfl ⟨vt, xx_add ha (by omega) ((congrArg t0 ct).trans et) ⟨vt, xx_add hb hk ((congrArg t1 ct).trans eu) h⟩⟩))))⟩⟩⟩
theorem xx_v3 {post : SX → Prop} (hq : q < 64) (ht : t < 64) (hk : k < 64) (ha : a < 64) (hb : b < 64) (h01 : ∀ i, fi i = 0 ∨ fi i = 1) (ek : kd q = 3) (e1 : pf q = nI a) (e2 : ps q = nI b)
    (h1 : fi (a * 64 + t) = 1 → post (fT, fP, fR, fC, fN, fQ, fW, cm, sr, fG, nI (k + 1), ar, tc, t0, t1, hX, kd, pl, pf, ps, us, fi, rp, rg, r1, r2, sb, gl, rb, upd pp k (nI a), upd pt k (nI t))) (h0 : fi (a * 64 + t) = 0 → post (fT, fP, fR, fC, fN, fQ, fW, cm, sr, fG, nI (k + 1), ar, tc, t0, t1, hX, kd, pl, pf, ps, us, fi, rp, rg, r1, r2, sb, gl, rb, upd pp k (nI b), upd pt k (nI t))) : wpX_visit post (fT, fP, fR, fC, fN, fQ, fW, cm, sr, fG, nI k, ar, tc, t0, t1, hX, kd, pl, pf, ps, us, fi, rp, rg, r1, r2, sb, gl, rb, pp, pt) (nI q) (nI t) := by
  have vi : vp_in (nI q) 64 := vp_in_nI hq (by decide)
  have cq : (nI q).toNatClampNeg = q := nI_clamp (by omega)
  refine ⟨vi, nm_r ((congrArg pf cq).trans e1) ⟨vi, nm_r ((congrArg ps cq).trans e2) ⟨vi, nm_r ((congrArg kd cq).trans ek) (br_f (by decide) (br_f (by decide) (br_f (by decide) (br_f (by decide) (br_t rfl (xx_fits ha ht h01 (br_c (fun z => ?_) (fun z => ?_))))))))⟩⟩⟩
  · unfold wX_visit_114
    exact xx_add hb hk rfl (h0 z)
  · unfold wX_visit_114
    exact xx_add ha hk rfl (h1 (bm_01t (h01 _) z))
theorem xx_39 {post : SX → Prop} {B : Nat → Int32} (hcN : cN ≤ 8) (hP : bm_IP ar kd pl pf ps pA pB pC us sz cN pN) (hT : bm_IT ar tc t0 t1 hX H cN tN) (hF : bm_IF kd pl pf ps tc t0 t1 fi pN tN)
    (hpost : ∀ pk' rb' pp' pt', (∀ x, x < 8 → rb' x = B x) → post (fT, fP, fR, fC, fN, fQ, fW, cm, sr, fG, pk', ar, tc, t0, t1, hX, kd, pl, pf, ps, us, fi, rp, rg, r1, r2, sb, gl, rb', pp', pt')) :
    ∀ (n i k : Nat) (l : List (Nat × Nat)) (rb pp pt : Nat → Int32), 64 - i < n → bm_wX sz l + i ≤ 64 → bm_SX pp pt l k → bm_OX fi pN tN l →
      (∀ x, x < 8 → bm_mg (rb x) (bm_RX (fun x p t => bm_D kd pl pf ps t0 t1 fi x 64 p t) x l) = B x) → wX_bindRow_39 post n (nI i) fT fP fR fC fN fQ fW cm sr fG (nI k) ar tc t0 t1 hX kd pl pf ps us fi rp rg r1 r2 sb gl rb pp pt := by
  have h6 := hP.1
  have t6 := hT.1
  have s1 : ∀ p, p < pN → 1 ≤ sz p := fun p hp => by
    have := hP.2.2.1 p hp
    unfold bm_Sz at this
    omega
  intro n
  induction n with
  | zero => intro i k l rb pp pt h; omega
  | succ n ih =>
    intro i k l rb pp pt hn hw hS hO hB
    have kw := bm_kX s1 l k hS hO
    cases l with
    | nil =>
      have hk : k = 0 := hS
      subst hk
      have fin : post (fT, fP, fR, fC, fN, fQ, fW, cm, sr, fG, nI 0, ar, tc, t0, t1, hX, kd, pl, pf, ps, us, fi, rp, rg, r1, r2, sb, gl, rb, pp, pt) := hpost _ _ _ _ (fun x hx => by
        have := hB x hx
        unfold bm_RX at this
        rw [bm_mg_r] at this
        exact this)
      exact br_c (fun _ => fin) (fun _ => br_t (by decide) fin)
    | cons e l =>
      obtain ⟨q, t⟩ := e
      obtain ⟨j, hj, ep, et, hS'⟩ := hS
      obtain ⟨⟨hq, ht, hf⟩, hO'⟩ := hO
      subst hj
      have hw' : sz q + bm_wX sz l + i ≤ 64 := hw
      have sq := s1 q hq
      have kw' := bm_kX s1 l j hS' hO'
      have vj : vp_in (nI j) 64 := vp_in_nI (by omega) (by decide)
      have cj : (nI j).toNatClampNeg = j := nI_clamp (by omega)
      have ep' : pp (nI j).toNatClampNeg = nI q := by rw [cj]; exact ep
      have et' : pt (nI j).toNatClampNeg = nI t := by rw [cj]; exact et
      have hB' : ∀ x, x < 8 → bm_mg (rb x) (bm_mg (bm_D kd pl pf ps t0 t1 fi x 64 q t) (bm_RX (fun x p t => bm_D kd pl pf ps t0 t1 fi x 64 p t) x l)) = B x := hB
      refine br_f (nI_ge (b := 64) (by omega) (by decide)) (br_f (nI_nle (by omega) (by omega)) (nm_r (nI_pred j) ⟨vj, vj, ?_⟩))
      rw [ep', et']
      have hq' : q < pN := hq
      have ht' : t < tN := ht
      rcases bm_step hcN hP hT hF hq' ht' hf with ⟨ek, es, hD⟩ | ⟨y, a, ek, hy, ha, el, e1, e2, _, _, es, hf', hD⟩ | ⟨c, ek, _, _, e1, e2, _, es, hD⟩ | ⟨c, a, u, ek, _, _, ha, hu, _, _, e1, e2, _, _, eu, es, hf', hD⟩ | ⟨c, a, b, u, w, ek, _, _, ha, hb, hu, hw2, _, _, e1, e2, _, _, _, eu, ew, es, hf', hg', hD⟩ | ⟨a, b, ek, ha, hb, e1, e2, _, _, es, hor⟩
      · refine xx_v0 (by omega) ek (nm_r (nI_1 i) (ih (i + 1) j l rb pp pt (by omega) (by omega) hS' hO' (fun x hx => ?_)))
        have := hB' x hx
        rw [hD x, bm_mg_l] at this
        exact this
      · refine xx_v1 (by omega) (by omega) hy (by omega) ek el e1 (fun z => nm_r (nI_1 i) (ih (i + 1) (j + 1) ((a, t) :: l) _ _ _ (by omega) ?_ (bm_SX_push hS') ⟨⟨by omega, ht', hf'⟩, hO'⟩ (fun x hx => ?_))) (fun z => nm_r (nI_1 i) (ih (i + 1) (j + 1) ((a, t) :: l) _ _ _ (by omega) ?_ (bm_SX_push hS') ⟨⟨by omega, ht', hf'⟩, hO'⟩ (fun x hx => ?_)))
        · show sz a + bm_wX sz l + (i + 1) ≤ 64
          omega
        · have := hB' x hx
          rw [hD x, bm_mg_as, el] at this
          exact bm_bind hy hx (by omega) z this
        · show sz a + bm_wX sz l + (i + 1) ≤ 64
          omega
        · have := hB' x hx
          rw [hD x, bm_mg_as, el] at this
          exact bm_bind' hy hx (by omega) z this
      · refine xx_v20 (by omega) (by omega) ek e1 e2 (nm_r (nI_1 i) (ih (i + 1) j l rb pp pt (by omega) (by omega) hS' hO' (fun x hx => ?_)))
        have := hB' x hx
        rw [hD x, bm_mg_l] at this
        exact this
      · refine xx_v21 (by omega) (by omega) (by omega) (by omega) ek e1 e2 eu (nm_r (nI_1 i) (ih (i + 1) (j + 1) ((a, u) :: l) _ _ _ (by omega) ?_ (bm_SX_push hS') ⟨⟨by omega, by omega, hf'⟩, hO'⟩ (fun x hx => ?_)))
        · show sz a + bm_wX sz l + (i + 1) ≤ 64
          omega
        · have := hB' x hx
          rw [hD x] at this
          exact this
      · have sa := s1 a (by omega)
        have sb2 := s1 b (by omega)
        refine xx_v22 (by omega) (by omega) (by omega) (by omega) (by omega) ek e1 e2 eu ew (nm_r (nI_1 i) (ih (i + 1) (j + 1 + 1) ((b, w) :: (a, u) :: l) _ _ _ (by omega) ?_ (bm_SX_push (bm_SX_push hS')) ⟨⟨by omega, by omega, hg'⟩, ⟨by omega, by omega, hf'⟩, hO'⟩ (fun x hx => ?_)))
        · show sz b + (sz a + bm_wX sz l) + (i + 1) ≤ 64
          omega
        · have := hB' x hx
          rw [hD x, bm_mg_as] at this
          exact this
      · refine xx_v3 (by omega) (by omega) (by omega) (by omega) (by omega) hF.1 ek e1 e2 (fun z => nm_r (nI_1 i) (ih (i + 1) (j + 1) ((a, t) :: l) _ _ _ (by omega) ?_ (bm_SX_push hS') ⟨⟨by omega, ht', z⟩, hO'⟩ (fun x hx => ?_))) (fun z => nm_r (nI_1 i) (ih (i + 1) (j + 1) ((b, t) :: l) _ _ _ (by omega) ?_ (bm_SX_push hS') ⟨⟨by omega, ht', ?_⟩, hO'⟩ (fun x hx => ?_)))
        · show sz a + bm_wX sz l + (i + 1) ≤ 64
          omega
        · have := hB' x hx
          rcases hor with ⟨_, hD⟩ | ⟨z', _, hD⟩
          · rw [hD x] at this
            exact this
          · rw [z] at z'
            exact absurd z' bm_n10
        · show sz b + bm_wX sz l + (i + 1) ≤ 64
          omega
        · rcases hor with ⟨z', hD⟩ | ⟨_, hr, hD⟩
          · rw [z] at z'
            exact absurd z' bm_n01
          · exact hr
        · have := hB' x hx
          rcases hor with ⟨z', hD⟩ | ⟨_, hr, hD⟩
          · rw [z] at z'
            exact absurd z' bm_n01
          · rw [hD x] at this
            exact this
theorem xx_b2 {post : SX → Prop} {r p1 : Int32} (h : vp_in r 8 ∧ wpX_addPending (fun u => match u with | (a1, a2, a3, a4, a5, a6, a7, a8, a9, a10, a11, a12, a13, a14, a15, a16, a17, a18, a19, a20, a21, a22, a23, a24, a25, a26, a27, a28, a29, a30, a31) => ∃ n39 : Nat, wX_bindRow_39 post n39 0 a1 a2 a3 a4 a5 a6 a7 a8 a9 a10 a11 a12 a13 a14 a15 a16 a17 a18 a19 a20 a21 a22 a23 a24 a25 a26 a27 a28 a29 a30 a31) (fT, fP, fR, fC, fN, fQ, fW, cm, sr, fG, 0, ar, tc, t0, t1, hX, kd, pl, pf, ps, us, fi, rp, rg, r1, r2, sb, gl, bm_clr (-1) 8 rb, pp, pt) (rp r.toNatClampNeg) p1) :
    ∀ (d i n : Nat), i + d = 8 → d < n → wX_bindRow_2 post r p1 fT fP fR fC fN fQ fW cm sr fG pk n (nI i) ar tc t0 t1 hX kd pl pf ps us fi rp rg r1 r2 sb gl (bm_clr (-1) i rb) pp pt := by
  intro d
  induction d with
  | zero =>
    intro i n hi hn
    obtain ⟨m, rfl⟩ : ∃ m, n = m + 1 := ⟨n - 1, by omega⟩
    have e : i = 8 := by omega
    subst e
    exact br_t (nI_le (a := 8) (Nat.le_refl _) (by decide)) h
  | succ d ih =>
    intro i n hi hn
    obtain ⟨m, rfl⟩ : ∃ m, n = m + 1 := ⟨n - 1, by omega⟩
    exact br_f (nI_ge (b := 8) (by omega) (by decide)) ⟨vp_in_nI (by omega) (by decide), nm_r ((bm_uq (by omega)).trans bm_clr_s) (nm_r (nI_1 i) (ih (i + 1) m (by omega) (by omega)))⟩
theorem xx_bindRow {post : SX → Prop} {r : Nat} (hcN : cN ≤ 8) (hP : bm_IP ar kd pl pf ps pA pB pC us sz cN pN) (hT : bm_IT ar tc t0 t1 hX H cN tN) (hF : bm_IF kd pl pf ps tc t0 t1 fi pN tN) (hr : r < 8) (er : rp r = nI root) (hq : root < pN) (hs : sz root ≤ 64) (ht : t < tN) (hf : fi (root * 64 + t) = 1)
    (hpost : ∀ pk' rb' pp' pt', (∀ x, x < 8 → rb' x = bm_D kd pl pf ps t0 t1 fi x 64 root t) → post (fT, fP, fR, fC, fN, fQ, fW, cm, sr, fG, pk', ar, tc, t0, t1, hX, kd, pl, pf, ps, us, fi, rp, rg, r1, r2, sb, gl, rb', pp', pt')) : wpX_bindRow post (fT, fP, fR, fC, fN, fQ, fW, cm, sr, fG, pk, ar, tc, t0, t1, hX, kd, pl, pf, ps, us, fi, rp, rg, r1, r2, sb, gl, rb, pp, pt) (nI r) (nI t) := by
  have h6 := hP.1
  have e : rp (nI r).toNatClampNeg = nI root := by rw [nI_clamp (by omega), er]
  suffices h : vp_in (nI r) 8 ∧ wpX_addPending (fun u => match u with | (a1, a2, a3, a4, a5, a6, a7, a8, a9, a10, a11, a12, a13, a14, a15, a16, a17, a18, a19, a20, a21, a22, a23, a24, a25, a26, a27, a28, a29, a30, a31) => ∃ n39 : Nat, wX_bindRow_39 post n39 0 a1 a2 a3 a4 a5 a6 a7 a8 a9 a10 a11 a12 a13 a14 a15 a16 a17 a18 a19 a20 a21 a22 a23 a24 a25 a26 a27 a28 a29 a30 a31) (fT, fP, fR, fC, fN, fQ, fW, cm, sr, fG, 0, ar, tc, t0, t1, hX, kd, pl, pf, ps, us, fi, rp, rg, r1, r2, sb, gl, bm_clr (-1) 8 rb, pp, pt) (rp (nI r).toNatClampNeg) (nI t) by
    have K := xx_b2 (pk := pk) h 8 0 9 rfl (by decide)
    rw [bm_clr0] at K
    exact ⟨9, K⟩
  refine ⟨vp_in_nI hr (by decide), ?_⟩
  rw [e]
  refine xx_add (k := 0) (by omega) (by decide) rfl ⟨65, ?_⟩
  refine xx_39 hcN hP hT hF hpost 65 0 1 [(root, t)] _ _ _ (by decide) ?_ (bm_SX_push (l := []) rfl) ⟨⟨hq, ht, hf⟩, trivial⟩ (fun x hx => ?_)
  · show sz root + 0 + 0 ≤ 64
    omega
  · rw [bm_clr_l hx, bm_mg_l]
    exact bm_mg_r _
end
end
section
/-! collectBindings of the reference -/
theorem bm_RY_c {d : Nat → Nat → Nat → Int32} {pA : Nat → Int32} {x : Nat} {e : Nat × Nat × Nat} {l : List (Nat × Nat × Nat)} : bm_RY d pA x (e :: l) = bm_mg (bm_RY d pA x l) (bm_dY d pA x e) := rfl
theorem bm_dY_0 {d : Nat → Nat → Nat → Int32} {pA : Nat → Int32} {x q u : Nat} : bm_dY d pA x (0, q, u) = d x q u := if_pos rfl
theorem bm_dY_1 {d : Nat → Nat → Nat → Int32} {pA : Nat → Int32} {x q u : Nat} : bm_dY d pA x (1, q, u) = if pA q = nI x then nI u else -1 := if_neg (by decide : ¬ (1 : Nat) = 0)
theorem bm_RY_1 {d : Nat → Nat → Nat → Int32} {pA : Nat → Int32} {x q u : Nat} : bm_RY d pA x [(0, q, u)] = d x q u := by
  rw [bm_RY_c, bm_dY_0]
  exact bm_mg_l _
section
variable {fT fP fR fC fN fQ fW cm sr fG pk : Int32} {ar tc t0 t1 hX kd pl pf ps us fi rp rg r1 r2 sb gl rb pp pt hg pA pB pC pa ok rY st : Nat → Int32} {H sz : Nat → Nat} {cN pN tN rN root t : Nat}
theorem yy_37 {post : SY → Prop} {B : Nat → Int32} {d : Nat → Nat → Nat → Int32} (ed : ∀ x p t, d x p t = bm_D kd pl pf ps t0 t1 fi x 64 p t) (hcN : cN ≤ 8) (hP : bm_IP ar kd pl pf ps pA pB pC us sz cN pN) (hT : bm_IT ar tc t0 t1 hX H cN tN) (hF : bm_IF kd pl pf ps tc t0 t1 fi pN tN) (hr : root < pN) (hM : bm_MP kd pl pf ps tc t0 t1 fi pa ok tN root t)
    (hpost : ∀ rY' st', (∀ x, x < 8 → rY' x = B x) → post (fT, fP, fR, fC, fN, fQ, fW, cm, sr, fG, ar, tc, t0, t1, hg, kd, pA, pB, pC, us, rp, rg, r1, r2, sb, gl, pa, ok, rY', st')) :
    ∀ (n i k : Nat) (l : List (Nat × Nat × Nat)) (rY st : Nat → Int32), 129 - i < n → bm_wY sz l + i ≤ 128 → bm_SY st l k → bm_OY fi pA pa pN tN root l →
      (∀ x, x < 8 → bm_mg (bm_RY d pA x l) (rY x) = B x) → wY_collectBindings_37 post fT fP fR fC fN fQ fW cm sr fG n (nI k) (nI i) ar tc t0 t1 hg kd pA pB pC us rp rg r1 r2 sb gl pa ok rY st := by
  have h6 := hP.1
  have t6 := hT.1
  have s1 : ∀ p, p < pN → 1 ≤ sz p := fun p hp => by
    have := hP.2.2.1 p hp
    unfold bm_Sz at this
    omega
  obtain ⟨_, hI1, hI2⟩ := hM
  intro n
  induction n with
  | zero => intro i k l rY st h; omega
  | succ n ih =>
    intro i k l rY st hn hw hS hO hB
    cases l with
    | nil =>
      have hk : k = 0 := hS
      subst hk
      have fin : post (fT, fP, fR, fC, fN, fQ, fW, cm, sr, fG, ar, tc, t0, t1, hg, kd, pA, pB, pC, us, rp, rg, r1, r2, sb, gl, pa, ok, rY, st) := hpost _ _ (fun x hx => by
        have := hB x hx
        unfold bm_RY at this
        rw [bm_mg_l] at this
        exact this)
      exact br_c (fun _ => fin) (fun _ => br_t (by decide) fin)
    | cons e l =>
      obtain ⟨w, q, u⟩ := e
      obtain ⟨j, hj, es, hS'⟩ := hS
      obtain ⟨⟨hq, hu, hpa, hcase⟩, hO'⟩ := hO
      subst hj
      have hq' : q ≤ root := hq
      have hu' : u < tN := hu
      have hpa' : pa q = nI u := hpa
      have hw' : (if w = 0 then 2 * sz q else 1) + bm_wY sz l + i ≤ 128 := hw
      have sq := s1 q (by omega)
      have kw := bm_kY hr s1 l j hS' hO'
      have w1 : 1 ≤ (if w = 0 then 2 * sz q else 1) := by
        split <;> omega
      have vj : vp_in (nI j) 128 := vp_in_nI (by omega) (by decide)
      have vq : vp_in (nI q) 64 := vp_in_nI (by omega) (by decide)
      have cj : (nI j).toNatClampNeg = j := nI_clamp (by omega)
      have cq : (nI q).toNatClampNeg = q := nI_clamp (by omega)
      have es' : st (nI j).toNatClampNeg = nI (2 * q + w) := by rw [cj]; exact es
      have hB' : ∀ x, x < 8 → bm_mg (bm_mg (bm_RY d pA x l) (bm_dY d pA x (w, q, u))) (rY x) = B x := hB
      have hC := hI1 q (by omega) hq' u hu' hpa'
      refine br_f (nI_ge (b := 256) (by omega) (by decide)) (br_f (nI_nle (by omega) (by omega)) (nm_r (pk_m1 j) ⟨vj, nm_r es' ?_⟩))
      rcases hcase with ⟨w0, hf⟩ | ⟨w0, y, hy, eA⟩
      · have w0' : w = 0 := w0
        subst w0'
        have hf' : fi (q * 64 + u) = 1 := hf
        have hwq : 2 * sz q + bm_wY sz l + i ≤ 128 := hw'
        have hBq : ∀ x, x < 8 → bm_mg (bm_mg (bm_RY d pA x l) (d x q u)) (rY x) = B x := fun x hx => by
          have := hB' x hx
          rw [bm_dY_0] at this
          exact this
        refine nm_r (bm_sh1 (by omega)) (br_f (by rw [show nI (2 * q + 0) = nI (2 * q) from rfl, bm_an1 (by omega)]; decide) ⟨vq, ?_⟩)
        rcases bm_step hcN hP hT hF (by omega) hu' hf' with ⟨ek, ez, hD⟩ | ⟨y, a, ek, hy, ha, el, e1, e2, eA, eB, ez, hfa, hD⟩ | ⟨c, ek, hc, ea, e1, e2, eA, ez, hD⟩ | ⟨c, a, v, ek, hc, ea, ha, hv, el, etc, e1, e2, eA, eB, ev, ez, hfa, hD⟩ | ⟨c, a, b, v, z, ek, hc, ea, ha, hb, hv, hz, el, etc, e1, e2, eA, eB, eC, ev, ew, ez, hfa, hfb, hD⟩ | ⟨a, b, ek, ha, hb, e1, e2, eA, eB, ez, hor⟩
        · refine nm_r ((congrArg kd cq).trans ek) (br_f (by decide) (br_f (by decide) (br_f (by decide) (nm_r (nI_1 i) (ih (i + 1) j l rY st (by omega) (by omega) hS' hO' (fun x hx => ?_))))))
          have := hBq x hx
          rw [ed, hD x, bm_mg_r] at this
          exact this
        · have sa := s1 a (by omega)
          have har : a ≤ root := by omega
          have cB : pB (nI q).toNatClampNeg = nI a := by rw [cq, eB]
          have pca : pa a = nI u := by
            have := hC.1 ek
            rw [e1, nI_clamp (by omega)] at this
            exact this
          refine nm_r ((congrArg kd cq).trans ek) (br_t rfl (br_f (nI_ge (b := 127) (by omega) (by decide)) (nm_r (nI_1 j) ⟨vj, nm_r (e' := upd st j (nI (2 * q + 1))) ?_ (nm_r (nI_1 (j + 1)) ⟨vq, vp_in_nI (by omega) (by decide), nm_r (e' := upd (upd st j (nI (2 * q + 1))) (j + 1) (nI (2 * a + 0))) ?_ (nm_r (nI_1 i) (ih (i + 1) (j + 1 + 1) ((0, a, u) :: (1, q, u) :: l) rY _ (by omega) ?_ (bm_SY_push 0 a u (bm_SY_push 1 q u hS')) ⟨⟨har, hu', pca, Or.inl ⟨rfl, hfa⟩⟩, ⟨hq', hu', hpa', Or.inr ⟨rfl, y, hy, eA⟩⟩, hO'⟩ (fun x hx => ?_)))⟩)⟩)))
          · rw [cj, bm_x21]
          · rw [cB, bm_x2, nI_clamp (by omega)]
            rfl
          · show 2 * sz a + (1 + bm_wY sz l) + (i + 1) ≤ 128
            omega
          · have := hBq x hx
            rw [ed, hD x, ← ed, ← bm_mg_as, el, ← eA] at this
            rw [bm_RY_c, bm_RY_c, bm_dY_0, bm_dY_1]
            exact this
        · have cA : pA (nI q).toNatClampNeg = nI c := by rw [cq, eA]
          have vA : vp_in (pA (nI q).toNatClampNeg) 8 := by
            rw [cA]
            exact vp_in_nI (by omega) (by decide)
          have eq : ar (pA (nI q).toNatClampNeg).toNatClampNeg = 0 := by rw [cA, nI_clamp (by omega), ea]
          refine nm_r ((congrArg kd cq).trans ek) (br_f (by decide) (br_t rfl ⟨vq, vA, nm_r eq (br_f (by decide) (br_t (by decide) (nm_r (nI_1 i) (ih (i + 1) j l rY st (by omega) (by omega) hS' hO' (fun x hx => ?_)))))⟩))
          have := hBq x hx
          rw [ed, hD x, bm_mg_r] at this
          exact this
        · have sa := s1 a (by omega)
          have har : a ≤ root := by omega
          have cA : pA (nI q).toNatClampNeg = nI c := by rw [cq, eA]
          have vA : vp_in (pA (nI q).toNatClampNeg) 8 := by
            rw [cA]
            exact vp_in_nI (by omega) (by decide)
          have eq : ar (pA (nI q).toNatClampNeg).toNatClampNeg = 1 := by rw [cA, nI_clamp (by omega), ea]
          have cB : pB (nI q).toNatClampNeg = nI a := by rw [cq, eB]
          have hvt : v < tN := by omega
          have pca : pa a = nI v := by
            have := (hC.2.2 ek (el.trans etc.symm)).1.resolve_left (by rw [e1]; exact bm_ne1 (by omega))
            rw [e1, nI_clamp (by omega), ev] at this
            exact this
          refine nm_r ((congrArg kd cq).trans ek) (br_f (by decide) (br_t rfl ⟨vq, vA, nm_r eq (br_f (by decide) (br_f (by decide) (br_f (nI_ge (b := 128) (by omega) (by decide)) (nm_r (nI_1 j) ⟨vq, vj, nm_r (e' := upd st j (nI (2 * a + 0))) ?_ (nm_r (nI_1 i) (ih (i + 1) (j + 1) ((0, a, v) :: l) rY _ (by omega) ?_ (bm_SY_push 0 a v hS') ⟨⟨har, hvt, pca, Or.inl ⟨rfl, hfa⟩⟩, hO'⟩ (fun x hx => ?_)))⟩))))⟩))
          · rw [cB, bm_x2, cj]
            rfl
          · show 2 * sz a + bm_wY sz l + (i + 1) ≤ 128
            omega
          · have := hBq x hx
            rw [ed, hD x, ← ed] at this
            rw [bm_RY_c, bm_dY_0]
            exact this
        · have sa := s1 a (by omega)
          have har : a ≤ root := by omega
          have sb2 := s1 b (by omega)
          have hbr : b ≤ root := by omega
          have cA : pA (nI q).toNatClampNeg = nI c := by rw [cq, eA]
          have vA : vp_in (pA (nI q).toNatClampNeg) 8 := by
            rw [cA]
            exact vp_in_nI (by omega) (by decide)
          have eq : ar (pA (nI q).toNatClampNeg).toNatClampNeg = 2 := by rw [cA, nI_clamp (by omega), ea]
          have cB : pB (nI q).toNatClampNeg = nI a := by rw [cq, eB]
          have cC : pC (nI q).toNatClampNeg = nI b := by rw [cq, eC]
          have hvt : v < tN := by omega
          have pca : pa a = nI v := by
            have := (hC.2.2 ek (el.trans etc.symm)).1.resolve_left (by rw [e1]; exact bm_ne1 (by omega))
            rw [e1, nI_clamp (by omega), ev] at this
            exact this
          have hzt : z < tN := by omega
          have pcb : pa b = nI z := by
            have := (hC.2.2 ek (el.trans etc.symm)).2.resolve_left (by rw [e2]; exact bm_ne1 (by omega))
            rw [e2, nI_clamp (by omega), ew] at this
            exact this
          refine nm_r ((congrArg kd cq).trans ek) (br_f (by decide) (br_t rfl ⟨vq, vA, nm_r eq (br_t rfl (br_f (nI_ge (b := 128) (by omega) (by decide)) (nm_r (nI_1 j) ⟨vq, vj, nm_r (e' := upd st j (nI (2 * b + 0))) ?_ (br_f (by decide) (br_f (nI_ge (b := 128) (by omega) (by decide)) (nm_r (nI_1 (j + 1)) ⟨vq, vp_in_nI (by omega) (by decide), nm_r (e' := upd (upd st j (nI (2 * b + 0))) (j + 1) (nI (2 * a + 0))) ?_ (nm_r (nI_1 i) (ih (i + 1) (j + 1 + 1) ((0, a, v) :: (0, b, z) :: l) rY _ (by omega) ?_ (bm_SY_push 0 a v (bm_SY_push 0 b z hS')) ⟨⟨har, hvt, pca, Or.inl ⟨rfl, hfa⟩⟩, ⟨hbr, hzt, pcb, Or.inl ⟨rfl, hfb⟩⟩, hO'⟩ (fun x hx => ?_)))⟩)))⟩)))⟩))
          · rw [cC, bm_x2, cj]
            rfl
          · rw [cB, bm_x2, nI_clamp (by omega)]
            rfl
          · show 2 * sz a + (2 * sz b + bm_wY sz l) + (i + 1) ≤ 128
            omega
          · have := hBq x hx
            rw [ed, hD x, ← ed, ← ed, ← bm_mg_as] at this
            rw [bm_RY_c, bm_RY_c, bm_dY_0, bm_dY_0]
            exact this
        · have sa := s1 a (by omega)
          have har : a ≤ root := by omega
          have sb2 := s1 b (by omega)
          have hbr : b ≤ root := by omega
          have cA : pA (nI q).toNatClampNeg = nI a := by rw [cq, eA]
          have vA : vp_in (pA (nI q).toNatClampNeg) 64 := by
            rw [cA]
            exact vp_in_nI (by omega) (by decide)
          have cB : pB (nI q).toNatClampNeg = nI b := by rw [cq, eB]
          have pcs := hC.2.1 ek
          rw [e1, e2, nI_clamp (by omega), nI_clamp (by omega)] at pcs
          have cO : ok (pA (nI q).toNatClampNeg).toNatClampNeg = fi (a * 64 + u) := by
            rw [cA, nI_clamp (by omega)]
            exact hI2.2 a (by omega) u hu' pcs.1
          refine nm_r ((congrArg kd cq).trans ek) (br_f (by decide) (br_f (by decide) (br_t rfl (br_f (nI_ge (b := 128) (by omega) (by decide)) (nm_r (nI_1 j) ⟨vq, vA, br_c (fun z => ⟨vq, vj, nm_r (e' := upd st j (nI (2 * b + 0))) ?_ (nm_r (nI_1 i) (ih (i + 1) (j + 1) ((0, b, u) :: l) rY _ (by omega) ?_ (bm_SY_push 0 b u hS') ⟨⟨hbr, hu', pcs.2, Or.inl ⟨rfl, ?_⟩⟩, hO'⟩ (fun x hx => ?_)))⟩) (fun z => ⟨vq, vj, nm_r (e' := upd st j (nI (2 * a + 0))) ?_ (nm_r (nI_1 i) (ih (i + 1) (j + 1) ((0, a, u) :: l) rY _ (by omega) ?_ (bm_SY_push 0 a u hS') ⟨⟨har, hu', pcs.1, Or.inl ⟨rfl, ?_⟩⟩, hO'⟩ (fun x hx => ?_)))⟩)⟩)))))
          · rw [cB, bm_x2, cj]
            rfl
          · show 2 * sz b + bm_wY sz l + (i + 1) ≤ 128
            omega
          · rw [cO] at z
            rcases hor with ⟨z', _⟩ | ⟨_, hb', _⟩
            · rw [z] at z'
              exact absurd z' bm_n01
            · exact hb'
          · rw [cO] at z
            have := hBq x hx
            rcases hor with ⟨z', _⟩ | ⟨_, _, hD⟩
            · rw [z] at z'
              exact absurd z' bm_n01
            · rw [ed, hD x, ← ed] at this
              rw [bm_RY_c, bm_dY_0]
              exact this
          · rw [cA, bm_x2, cj]
            rfl
          · show 2 * sz a + bm_wY sz l + (i + 1) ≤ 128
            omega
          · rw [cO] at z
            exact bm_01t (hF.1 _) z
          · rw [cO] at z
            have := hBq x hx
            rcases hor with ⟨_, hD⟩ | ⟨z', _⟩
            · rw [ed, hD x, ← ed] at this
              rw [bm_RY_c, bm_dY_0]
              exact this
            · exact absurd z' z
      · have w0' : w = 1 := w0
        subst w0'
        have eA' : pA q = nI y := eA
        have hwq : 1 + bm_wY sz l + i ≤ 128 := hw'
        have cA : pA (nI q).toNatClampNeg = nI y := by rw [cq, eA']
        have vA : vp_in (pA (nI q).toNatClampNeg) 8 := by
          rw [cA]
          exact vp_in_nI hy (by decide)
        refine nm_r (bm_sh2 (by omega)) (br_t (bm_an2 (by omega)) ⟨vq, vq, vA, nm_r (e' := upd rY y (nI u)) ?_ (nm_r (nI_1 i) (ih (i + 1) j l _ st (by omega) (by omega) hS' hO' (fun x hx => ?_)))⟩)
        · rw [cA, cq, hpa', nI_clamp (by omega)]
        · have h9 := hB' x hx
          rw [bm_dY_1, eA'] at h9
          exact bm_bindY hy hx (by omega) h9
theorem yy_c2 {post : SY → Prop} {r : Int32} (h : ∃ n, wY_collectBindings_37 post fT fP fR fC fN fQ fW cm sr fG n (0 + 1) 0 ar tc t0 t1 hg kd pA pB pC us rp rg r1 r2 sb gl pa ok (bm_clr (-1) 8 rY) (upd st 0 (r * 2))) :
    ∀ (d i n : Nat), i + d = 8 → d < n → wY_collectBindings_2 post r fT fP fR fC fN fQ fW cm sr fG n (nI i) ar tc t0 t1 hg kd pA pB pC us rp rg r1 r2 sb gl pa ok (bm_clr (-1) i rY) st := by
  intro d
  induction d with
  | zero =>
    intro i n hi hn
    obtain ⟨m, rfl⟩ : ∃ m, n = m + 1 := ⟨n - 1, by omega⟩
    have e : i = 8 := by omega
    subst e
    exact br_t (nI_le (a := 8) (Nat.le_refl _) (by decide)) (nm_e (nm_e h))
  | succ d ih =>
    intro i n hi hn
    obtain ⟨m, rfl⟩ : ∃ m, n = m + 1 := ⟨n - 1, by omega⟩
    exact br_f (nI_ge (b := 8) (by omega) (by decide)) ⟨vp_in_nI (by omega) (by decide), nm_r ((bm_uq (by omega)).trans bm_clr_s) (nm_r (nI_1 i) (ih (i + 1) m (by omega) (by omega)))⟩
theorem yy_collect {post : SY → Prop} (hcN : cN ≤ 8) (hP : bm_IP ar kd pl pf ps pA pB pC us sz cN pN) (hT : bm_IT ar tc t0 t1 hX H cN tN) (hF : bm_IF kd pl pf ps tc t0 t1 fi pN tN) (hr : root < pN) (ht : t < tN) (hs : sz root ≤ 64) (hM : bm_MP kd pl pf ps tc t0 t1 fi pa ok tN root t) (hf : fi (root * 64 + t) = 1)
    (hpost : ∀ rY' st', (∀ x, x < 8 → rY' x = bm_D kd pl pf ps t0 t1 fi x 64 root t) → post (fT, fP, fR, fC, fN, fQ, fW, cm, sr, fG, ar, tc, t0, t1, hg, kd, pA, pB, pC, us, rp, rg, r1, r2, sb, gl, pa, ok, rY', st')) : wpY_collectBindings post (fT, fP, fR, fC, fN, fQ, fW, cm, sr, fG, ar, tc, t0, t1, hg, kd, pA, pB, pC, us, rp, rg, r1, r2, sb, gl, pa, ok, rY, st) (nI root) := by
  have h6 := hP.1
  have L : ∃ n, wY_collectBindings_37 post fT fP fR fC fN fQ fW cm sr fG n (0 + 1) 0 ar tc t0 t1 hg kd pA pB pC us rp rg r1 r2 sb gl pa ok (bm_clr (-1) 8 rY) (upd st 0 (nI root * 2)) := by
    refine ⟨130, ?_⟩
    rw [bm_x2]
    refine yy_37 (d := fun x p t => bm_D kd pl pf ps t0 t1 fi x 64 p t) (fun _ _ _ => rfl) (t := t) hcN hP hT hF hr hM hpost 130 0 1 [(0, root, t)] _ _ (by decide) ?_ (bm_SY_push (l := []) (k := 0) 0 root t rfl) ⟨⟨Nat.le_refl _, ht, hM.1, Or.inl ⟨rfl, hf⟩⟩, trivial⟩ (fun x hx => ?_)
    · show 2 * sz root + 0 + 0 ≤ 128
      omega
    · rw [bm_clr_l hx, bm_mg_r, bm_RY_1]
  have K := yy_c2 (r := nI root) L 8 0 9 rfl (by decide)
  rw [bm_clr0] at K
  exact ⟨9, K⟩
end
end
section
/-! guards; the selected row -/
section
variable {fT fP fR fC fN fQ fW cm sr fG pk : Int32} {ar tc t0 t1 hX kd pl pf ps us fi rp rg r1 r2 sb gl rb pp pt hg pA pB pC pa ok rY st : Nat → Int32} {H sz : Nat → Nat} {cN pN tN rN : Nat}
theorem xx_pg {post : Int32 → SX → Prop} {r x gN : Nat} {g bx g2 : Int32} (hr : r < 8) (eg : rg r = g) (hg0 : ¬ g = 0) (e1 : r1 r = nI x) (hx : x < 8) (e2 : r2 r = g2) (eb : rb x = bx) (hG : gN < 8)
    (h0 : bx = -1 → post 0 (fT, fP, fR, fC, fN, fQ, fW, cm, sr, nI (gN + 1), pk, ar, tc, t0, t1, hX, kd, pl, pf, ps, us, fi, rp, rg, r1, r2, sb, upd gl gN (nI r), rb, pp, pt))
    (h1 : ¬ bx = -1 → wpX_guardHolds (fun v => ((v = 0 → post 0 (fT, fP, fR, fC, fN, fQ, fW, cm, sr, nI (gN + 1), pk, ar, tc, t0, t1, hX, kd, pl, pf, ps, us, fi, rp, rg, r1, r2, sb, upd gl gN (nI r), rb, pp, pt)) ∧ (¬ v = 0 → post 1 (fT, fP, fR, fC, fN, fQ, fW, cm, sr, nI (gN + 1), pk, ar, tc, t0, t1, hX, kd, pl, pf, ps, us, fi, rp, rg, r1, r2, sb, upd gl gN (nI r), rb, pp, pt)))) (fT, fP, fR, fC, fN, fQ, fW, cm, sr, nI (gN + 1), pk, ar, tc, t0, t1, hX, kd, pl, pf, ps, us, fi, rp, rg, r1, r2, sb, upd gl gN (nI r), rb, pp, pt) g bx g2) :
    wpX_passesGuard post (fT, fP, fR, fC, fN, fQ, fW, cm, sr, nI gN, pk, ar, tc, t0, t1, hX, kd, pl, pf, ps, us, fi, rp, rg, r1, r2, sb, gl, rb, pp, pt) (nI r) := by
  have vr : vp_in (nI r) 8 := vp_in_nI hr (by decide)
  have cr : (nI r).toNatClampNeg = r := nI_clamp (by omega)
  have q1 : r1 (nI r).toNatClampNeg = nI x := by rw [cr, e1]
  have qb : rb (r1 (nI r).toNatClampNeg).toNatClampNeg = bx := by rw [q1, nI_clamp (by omega), eb]
  have v1 : vp_in (r1 (nI r).toNatClampNeg) 8 := by
    rw [q1]
    exact vp_in_nI hx (by decide)
  have qg : rg (nI r).toNatClampNeg = g := by rw [cr, eg]
  have q2 : r2 (nI r).toNatClampNeg = g2 := by rw [cr, e2]
  refine ⟨vr, br_f (by rw [qg]; exact hg0) ⟨vp_in_nI hG (by decide), nm_r (bm_uq (by omega)) (nm_r (nI_1 gN) ⟨vr, v1, nm_r qb (br_c h0 (fun z => ⟨vr, vr, ?_⟩))⟩)⟩⟩
  rw [qg, q2]
  exact h1 z
theorem yy_gh {post : Int32 → SY → Prop} {r x : Nat} {g bx : Int32} (hr : r < 8) (eg : rg r = g) (e1 : r1 r = nI x) (hx : x < 8) (eb : rY x = bx)
    (h1 : g = 1 ∨ g = 2 → wY_guardHolds_29 post (nI r) g bx fT fP fR fC fN fQ fW cm sr fG ar tc t0 t1 hg kd pA pB pC us rp rg r1 r2 sb gl pa ok rY st)
    (h3 : ¬ (g = 1 ∨ g = 2) → ((0 ≤ bx → ((g = 3 → (vp_in bx 64 ∧ (vp_in (nI r) 8 ∧ (((tc bx.toNatClampNeg) = (r2 (nI r).toNatClampNeg) → (post 1 (fT, fP, fR, fC, fN, fQ, fW, cm, sr, fG, ar, tc, t0, t1, hg, kd, pA, pB, pC, us, rp, rg, r1, r2, sb, gl, pa, ok, rY, st))) ∧ (¬ (tc bx.toNatClampNeg) = (r2 (nI r).toNatClampNeg) → (post 0 (fT, fP, fR, fC, fN, fQ, fW, cm, sr, fG, ar, tc, t0, t1, hg, kd, pA, pB, pC, us, rp, rg, r1, r2, sb, gl, pa, ok, rY, st))))))) ∧ (¬ g = 3 → (wpY_computeHeights (fun u => match u with | (a1, a2, a3, a4, a5, a6, a7, a8, a9, a10, a11, a12, a13, a14, a15, a16, a17, a18, a19, a20, a21, a22, a23, a24, a25, a26, a27, a28, a29, a30) => (vp_in bx 64 ∧ (vp_in (nI r) 8 ∧ ((((a24 (nI r).toNatClampNeg) < (a15 bx.toNatClampNeg) → (post 0 (a1, a2, a3, a4, a5, a6, a7, a8, a9, a10, a11, a12, a13, a14, a15, a16, a17, a18, a19, a20, a21, a22, a23, a24, a25, a26, a27, a28, a29, a30))) ∧ (¬ (a24 (nI r).toNatClampNeg) < (a15 bx.toNatClampNeg) → (post 1 (a1, a2, a3, a4, a5, a6, a7, a8, a9, a10, a11, a12, a13, a14, a15, a16, a17, a18, a19, a20, a21, a22, a23, a24, a25, a26, a27, a28, a29, a30)))))))) (fT, fP, fR, fC, fN, fQ, fW, cm, sr, fG, ar, tc, t0, t1, hg, kd, pA, pB, pC, us, rp, rg, r1, r2, sb, gl, pa, ok, rY, st))))) ∧ (¬ 0 ≤ bx → post 0 (fT, fP, fR, fC, fN, fQ, fW, cm, sr, fG, ar, tc, t0, t1, hg, kd, pA, pB, pC, us, rp, rg, r1, r2, sb, gl, pa, ok, rY, st)))) :
    wpY_guardHolds post (fT, fP, fR, fC, fN, fQ, fW, cm, sr, fG, ar, tc, t0, t1, hg, kd, pA, pB, pC, us, rp, rg, r1, r2, sb, gl, pa, ok, rY, st) (nI r) := by
  have vr : vp_in (nI r) 8 := vp_in_nI hr (by decide)
  have cr : (nI r).toNatClampNeg = r := nI_clamp (by omega)
  have q1 : r1 (nI r).toNatClampNeg = nI x := by rw [cr, e1]
  have qb : rY (r1 (nI r).toNatClampNeg).toNatClampNeg = bx := by rw [q1, nI_clamp (by omega), eb]
  have v1 : vp_in (r1 (nI r).toNatClampNeg) 8 := by
    rw [q1]
    exact vp_in_nI hx (by decide)
  have qg : rg (nI r).toNatClampNeg = g := by rw [cr, eg]
  exact ⟨vr, nm_r qg ⟨vr, v1, nm_r qb (br_c (fun z => h1 (Or.inl z)) (fun z => br_c (fun w => h1 (Or.inr w)) (fun w => h3 (fun y => y.elim z w))))⟩⟩
theorem yy_29 {post : Int32 → SY → Prop} {r y : Nat} {g bx bY : Int32} (hr : r < 8) (e2 : r2 r = nI y) (hy : y < 8) (eb : rY y = bY)
    (h : ((bx < 0 → (post 0 (fT, fP, fR, fC, fN, fQ, fW, cm, sr, fG, ar, tc, t0, t1, hg, kd, pA, pB, pC, us, rp, rg, r1, r2, sb, gl, pa, ok, rY, st))) ∧ (¬ bx < 0 → (((0 ≤ bY → (((g = 1 → (((bx = bY → (post 1 (fT, fP, fR, fC, fN, fQ, fW, cm, sr, fG, ar, tc, t0, t1, hg, kd, pA, pB, pC, us, rp, rg, r1, r2, sb, gl, pa, ok, rY, st))) ∧ (¬ bx = bY → (post 0 (fT, fP, fR, fC, fN, fQ, fW, cm, sr, fG, ar, tc, t0, t1, hg, kd, pA, pB, pC, us, rp, rg, r1, r2, sb, gl, pa, ok, rY, st)))))) ∧ (¬ g = 1 → (((bx = bY → (post 0 (fT, fP, fR, fC, fN, fQ, fW, cm, sr, fG, ar, tc, t0, t1, hg, kd, pA, pB, pC, us, rp, rg, r1, r2, sb, gl, pa, ok, rY, st))) ∧ (¬ bx = bY → (post 1 (fT, fP, fR, fC, fN, fQ, fW, cm, sr, fG, ar, tc, t0, t1, hg, kd, pA, pB, pC, us, rp, rg, r1, r2, sb, gl, pa, ok, rY, st))))))))) ∧ (¬ 0 ≤ bY → (post 0 (fT, fP, fR, fC, fN, fQ, fW, cm, sr, fG, ar, tc, t0, t1, hg, kd, pA, pB, pC, us, rp, rg, r1, r2, sb, gl, pa, ok, rY, st)))))))) : wY_guardHolds_29 post (nI r) g bx fT fP fR fC fN fQ fW cm sr fG ar tc t0 t1 hg kd pA pB pC us rp rg r1 r2 sb gl pa ok rY st := by
  have vr : vp_in (nI r) 8 := vp_in_nI hr (by decide)
  have cr : (nI r).toNatClampNeg = r := nI_clamp (by omega)
  have q1 : r2 (nI r).toNatClampNeg = nI y := by rw [cr, e2]
  have qb : rY (r2 (nI r).toNatClampNeg).toNatClampNeg = bY := by rw [q1, nI_clamp (by omega), eb]
  have v1 : vp_in (r2 (nI r).toNatClampNeg) 8 := by
    rw [q1]
    exact vp_in_nI hy (by decide)
  exact ⟨vr, v1, nm_r qb h⟩
/-- one verdict, on both sides -/
theorem bm_guard {r : Nat} {B : Nat → Int32} (hcN : cN ≤ 8) (hT : bm_IT ar tc t0 t1 hX H cN tN) (hr : r < 8) (hw : bm_Rw rp rg r1 r2 sz pN r) (hg0 : ¬ rg r = 0) (hB : ∀ x, x < 8 → B x = -1 ∨ ∃ u, u < tN ∧ B x = nI u) :
    ∃ v : Int32, (v = 0 ∨ v = 1) ∧
      (∀ (post : Int32 → SX → Prop) (gN : Nat) (fT fP fR fC fN fQ fW cm sr pk : Int32) (kd pl pf ps us fi sb gl rb pp pt : Nat → Int32), gN < 8 → (∀ x, x < 8 → rb x = B x) → post v (fT, fP, fR, fC, fN, fQ, fW, cm, sr, nI (gN + 1), pk, ar, tc, t0, t1, hX, kd, pl, pf, ps, us, fi, rp, rg, r1, r2, sb, upd gl gN (nI r), rb, pp, pt) → wpX_passesGuard post (fT, fP, fR, fC, fN, fQ, fW, cm, sr, nI gN, pk, ar, tc, t0, t1, hX, kd, pl, pf, ps, us, fi, rp, rg, r1, r2, sb, gl, rb, pp, pt) (nI r)) ∧
      (∀ (post : Int32 → SY → Prop) (fT fP fR fC fQ fW cm sr fG : Int32) (kd pA pB pC us sb gl hg pa ok rY st : Nat → Int32), (∀ x, x < 8 → rY x = B x) → (∀ hg', post v (fT, fP, fR, fC, nI tN, fQ, fW, cm, sr, fG, ar, tc, t0, t1, hg', kd, pA, pB, pC, us, rp, rg, r1, r2, sb, gl, pa, ok, rY, st)) → wpY_guardHolds post (fT, fP, fR, fC, nI tN, fQ, fW, cm, sr, fG, ar, tc, t0, t1, hg, kd, pA, pB, pC, us, rp, rg, r1, r2, sb, gl, pa, ok, rY, st) (nI r)) := by
  have t6 := hT.1
  obtain ⟨q, hq, er, hs, hk⟩ := hw
  rcases hk with z | ⟨x, y, eg, hx, hy, e1, e2⟩ | ⟨x, eg, hx, e1⟩
  · exact absurd z hg0
  · have vy : vp_in (nI y) 8 := vp_in_nI hy (by decide)
    have cy : (nI y).toNatClampNeg = y := nI_clamp (by omega)
    have cr : (nI r).toNatClampNeg = r := nI_clamp (by omega)
    rcases hB x hx with bx | ⟨u, hu, bx⟩
    · refine ⟨0, Or.inl rfl, fun post gN fT fP fR fC fN fQ fW cm sr pk kd pl pf ps us fi sb gl rb pp pt hG hb h => ?_, fun post fT fP fR fC fQ fW cm sr fG kd pA pB pC us sb gl hg pa ok rY st hb h => ?_⟩
      · exact xx_pg hr rfl hg0 e1 hx e2 ((hb x hx).trans bx) hG (fun _ => h) (fun z => absurd rfl z)
      · exact yy_gh hr rfl e1 hx ((hb x hx).trans bx) (fun _ => yy_29 hr e2 hy rfl (br_t bm_n1lt (h hg))) (fun z => absurd eg z)
    · have nu : ¬ nI u = -1 := bm_ne1 (by omega)
      have pu : ¬ nI u < 0 := bm_nge (by omega)
      rcases eg with eg | eg
      · by_cases yx : B y = nI u
        · refine ⟨1, Or.inr rfl, fun post gN fT fP fR fC fN fQ fW cm sr pk kd pl pf ps us fi sb gl rb pp pt hG hb h => ?_, fun post fT fP fR fC fQ fW cm sr fG kd pA pB pC us sb gl hg pa ok rY st hb h => ?_⟩
          · exact xx_pg hr eg (by decide) e1 hx e2 ((hb x hx).trans bx) hG (fun z => absurd z nu) (fun _ => br_f (by decide) (br_f (by decide) (br_t rfl ⟨vy, br_t (by rw [cy, hb y hy]; exact yx) (br_f bm_n10 h)⟩)))
          · exact yy_gh hr eg e1 hx ((hb x hx).trans bx) (fun _ => yy_29 hr e2 hy ((hb y hy).trans yx) (br_f pu (br_t (nI_pos' (by omega)) (br_t rfl (br_t rfl (h hg)))))) (fun z => absurd (Or.inl rfl) z)
        · refine ⟨0, Or.inl rfl, fun post gN fT fP fR fC fN fQ fW cm sr pk kd pl pf ps us fi sb gl rb pp pt hG hb h => ?_, fun post fT fP fR fC fQ fW cm sr fG kd pA pB pC us sb gl hg pa ok rY st hb h => ?_⟩
          · exact xx_pg hr eg (by decide) e1 hx e2 ((hb x hx).trans bx) hG (fun z => absurd z nu) (fun _ => br_f (by decide) (br_f (by decide) (br_t rfl ⟨vy, br_f (by rw [cy, hb y hy]; exact yx) (br_t rfl h)⟩)))
          · exact yy_gh hr eg e1 hx ((hb x hx).trans bx) (fun _ => yy_29 hr e2 hy (hb y hy) (br_f pu (br_c (fun _ => br_t rfl (br_f (fun z => yx z.symm) (h hg))) (fun _ => h hg)))) (fun z => absurd (Or.inl rfl) z)
      · by_cases yn : B y = -1
        · refine ⟨0, Or.inl rfl, fun post gN fT fP fR fC fN fQ fW cm sr pk kd pl pf ps us fi sb gl rb pp pt hG hb h => ?_, fun post fT fP fR fC fQ fW cm sr fG kd pA pB pC us sb gl hg pa ok rY st hb h => ?_⟩
          · exact xx_pg hr eg (by decide) e1 hx e2 ((hb x hx).trans bx) hG (fun z => absurd z nu) (fun _ => br_f (by decide) (br_f (by decide) (br_f (by decide) (br_t rfl ⟨vy, br_t (by rw [cy, hb y hy]; exact yn) (br_t rfl h)⟩))))
          · exact yy_gh hr eg e1 hx ((hb x hx).trans bx) (fun _ => yy_29 hr e2 hy ((hb y hy).trans yn) (br_f pu (br_f bm_n1le (h hg)))) (fun z => absurd (Or.inr rfl) z)
        · have y0 : 0 ≤ B y := by
            rcases hB y hy with z | ⟨w, hw, z⟩
            · exact absurd z yn
            · rw [z]
              exact nI_pos' (by omega)
          by_cases yx : B y = nI u
          · refine ⟨0, Or.inl rfl, fun post gN fT fP fR fC fN fQ fW cm sr pk kd pl pf ps us fi sb gl rb pp pt hG hb h => ?_, fun post fT fP fR fC fQ fW cm sr fG kd pA pB pC us sb gl hg pa ok rY st hb h => ?_⟩
            · exact xx_pg hr eg (by decide) e1 hx e2 ((hb x hx).trans bx) hG (fun z => absurd z nu) (fun _ => br_f (by decide) (br_f (by decide) (br_f (by decide) (br_t rfl ⟨vy, br_f (by rw [cy, hb y hy]; exact yn) ⟨vy, br_t (by rw [cy, hb y hy]; exact yx) (br_t rfl h)⟩⟩))))
            · exact yy_gh hr eg e1 hx ((hb x hx).trans bx) (fun _ => yy_29 hr e2 hy (hb y hy) (br_f pu (br_t y0 (br_f (by decide) (br_t yx.symm (h hg)))))) (fun z => absurd (Or.inr rfl) z)
          · refine ⟨1, Or.inr rfl, fun post gN fT fP fR fC fN fQ fW cm sr pk kd pl pf ps us fi sb gl rb pp pt hG hb h => ?_, fun post fT fP fR fC fQ fW cm sr fG kd pA pB pC us sb gl hg pa ok rY st hb h => ?_⟩
            · exact xx_pg hr eg (by decide) e1 hx e2 ((hb x hx).trans bx) hG (fun z => absurd z nu) (fun _ => br_f (by decide) (br_f (by decide) (br_f (by decide) (br_t rfl ⟨vy, br_f (by rw [cy, hb y hy]; exact yn) ⟨vy, br_f (by rw [cy, hb y hy]; exact yx) (br_f bm_n10 h)⟩⟩))))
            · exact yy_gh hr eg e1 hx ((hb x hx).trans bx) (fun _ => yy_29 hr e2 hy (hb y hy) (br_f pu (br_t y0 (br_f (by decide) (br_f (fun z => yx z.symm) (h hg)))))) (fun z => absurd (Or.inr rfl) z)
  · have cr : (nI r).toNatClampNeg = r := nI_clamp (by omega)
    have vr : vp_in (nI r) 8 := vp_in_nI hr (by decide)
    rcases hB x hx with bx | ⟨u, hu, bx⟩
    · have ne : ¬ (rg r = 1 ∨ rg r = 2) := by
        rcases eg with e | e <;> (rw [e]; decide)
      refine ⟨0, Or.inl rfl, fun post gN fT fP fR fC fN fQ fW cm sr pk kd pl pf ps us fi sb gl rb pp pt hG hb h => ?_, fun post fT fP fR fC fQ fW cm sr fG kd pA pB pC us sb gl hg pa ok rY st hb h => ?_⟩
      · exact xx_pg hr rfl hg0 e1 hx rfl ((hb x hx).trans bx) hG (fun _ => h) (fun z => absurd rfl z)
      · exact yy_gh hr rfl e1 hx ((hb x hx).trans bx) (fun z => absurd z ne) (fun _ => br_f bm_n1le (h hg))
    · have nu : ¬ nI u = -1 := bm_ne1 (by omega)
      have cu : (nI u).toNatClampNeg = u := nI_clamp (by omega)
      have vu : vp_in (nI u) 64 := vp_in_nI (by omega) (by decide)
      have pu : (0 : Int32) ≤ nI u := nI_pos' (by omega)
      rcases eg with eg | eg
      · by_cases z : tc u = r2 r
        · refine ⟨1, Or.inr rfl, fun post gN fT fP fR fC fN fQ fW cm sr pk kd pl pf ps us fi sb gl rb pp pt hG hb h => ?_, fun post fT fP fR fC fQ fW cm sr fG kd pA pB pC us sb gl hg pa ok rY st hb h => ?_⟩
          · exact xx_pg hr eg (by decide) e1 hx rfl ((hb x hx).trans bx) hG (fun z => absurd z nu) (fun _ => br_f (by decide) (br_f (by decide) (br_f (by decide) (br_f (by decide) (br_t rfl ⟨vu, br_t (by rw [cu]; exact z) (br_f bm_n10 h)⟩)))))
          · exact yy_gh hr eg e1 hx ((hb x hx).trans bx) (fun z => absurd z (by decide)) (fun _ => br_t pu (br_t rfl ⟨vu, vr, br_t (by rw [cu, cr]; exact z) (h hg)⟩))
        · refine ⟨0, Or.inl rfl, fun post gN fT fP fR fC fN fQ fW cm sr pk kd pl pf ps us fi sb gl rb pp pt hG hb h => ?_, fun post fT fP fR fC fQ fW cm sr fG kd pA pB pC us sb gl hg pa ok rY st hb h => ?_⟩
          · exact xx_pg hr eg (by decide) e1 hx rfl ((hb x hx).trans bx) hG (fun z => absurd z nu) (fun _ => br_f (by decide) (br_f (by decide) (br_f (by decide) (br_f (by decide) (br_t rfl ⟨vu, br_f (by rw [cu]; exact z) (br_t rfl h)⟩)))))
          · exact yy_gh hr eg e1 hx ((hb x hx).trans bx) (fun z => absurd z (by decide)) (fun _ => br_t pu (br_t rfl ⟨vu, vr, br_f (by rw [cu, cr]; exact z) (h hg)⟩))
      · by_cases z : r2 r < hX u
        · refine ⟨0, Or.inl rfl, fun post gN fT fP fR fC fN fQ fW cm sr pk kd pl pf ps us fi sb gl rb pp pt hG hb h => ?_, fun post fT fP fR fC fQ fW cm sr fG kd pA pB pC us sb gl hg pa ok rY st hb h => ?_⟩
          · exact xx_pg hr eg (by decide) e1 hx rfl ((hb x hx).trans bx) hG (fun z => absurd z nu) (fun _ => br_f (by decide) (br_t (by decide) ⟨vu, br_t (by rw [cu]; exact z) (br_t rfl h)⟩))
          · exact yy_gh hr eg e1 hx ((hb x hx).trans bx) (fun z => absurd z (by decide)) (fun _ => br_t pu (br_f (by decide) (yy_heights hcN hT (fun hg' hh => ⟨vu, vr, br_t (by rw [cu, cr, hh u hu]; exact z) (h hg')⟩))))
        · refine ⟨1, Or.inr rfl, fun post gN fT fP fR fC fN fQ fW cm sr pk kd pl pf ps us fi sb gl rb pp pt hG hb h => ?_, fun post fT fP fR fC fQ fW cm sr fG kd pA pB pC us sb gl hg pa ok rY st hb h => ?_⟩
          · exact xx_pg hr eg (by decide) e1 hx rfl ((hb x hx).trans bx) hG (fun z => absurd z nu) (fun _ => br_f (by decide) (br_t (by decide) ⟨vu, br_f (by rw [cu]; exact z) (br_f bm_n10 h)⟩))
          · exact yy_gh hr eg e1 hx ((hb x hx).trans bx) (fun z => absurd z (by decide)) (fun _ => br_t pu (br_f (by decide) (yy_heights hcN hT (fun hg' hh => ⟨vu, vr, br_f (by rw [cu, cr, hh u hu]; exact z) (h hg')⟩))))
end
end
section
/-! match, matchInOrder, rowPatternMatches -/
section
variable {fT fP fR fC fN fQ fW cm sr fG pk : Int32} {ar tc t0 t1 hX kd pl pf ps us fi rp rg r1 r2 sb gl rb pp pt hg pA pB pC pa ok rY st : Nat → Int32} {H sz : Nat → Nat} {cN pN tN rN t : Nat}
theorem xx_s7 {post : SX → Prop} (h : post (fT, fP, fR, fC, fN, fQ, fW, cm, sr, fG, pk, ar, tc, t0, t1, hX, kd, pl, pf, ps, us, fi, rp, rg, r1, r2, bm_cp rb 8 sb, gl, rb, pp, pt)) : ∀ (d i n : Nat), i + d = 8 → d < n → wX_selectRow_7 post fT fP fR fC fN fQ fW cm sr fG pk n (nI i) ar tc t0 t1 hX kd pl pf ps us fi rp rg r1 r2 (bm_cp rb i sb) gl rb pp pt := by
  intro d
  induction d with
  | zero =>
    intro i n hi hn
    obtain ⟨m, rfl⟩ : ∃ m, n = m + 1 := ⟨n - 1, by omega⟩
    have e : i = 8 := by omega
    subst e
    exact br_t (nI_le (a := 8) (Nat.le_refl _) (by decide)) h
  | succ d ih =>
    intro i n hi hn
    obtain ⟨m, rfl⟩ : ∃ m, n = m + 1 := ⟨n - 1, by omega⟩
    have vi : vp_in (nI i) 8 := vp_in_nI (by omega) (by decide)
    exact br_f (nI_ge (b := 8) (by omega) (by decide)) ⟨vi, vi, nm_r (by rw [nI_clamp (by omega), bm_cp_s]) (nm_r (nI_1 i) (ih (i + 1) m (by omega) (by omega)))⟩
theorem xx_sel {post : SX → Prop} {r : Int32} (h : post (fT, fP, fR, fC, fN, fQ, fW, cm, r, fG, pk, ar, tc, t0, t1, hX, kd, pl, pf, ps, us, fi, rp, rg, r1, r2, bm_cp rb 8 sb, gl, rb, pp, pt)) : wpX_selectRow post (fT, fP, fR, fC, fN, fQ, fW, cm, sr, fG, pk, ar, tc, t0, t1, hX, kd, pl, pf, ps, us, fi, rp, rg, r1, r2, sb, gl, rb, pp, pt) r := by
  have k := xx_s7 h 8 0 9 rfl (by decide)
  rw [bm_cp0] at k
  exact ⟨9, k⟩
theorem yy_s124 {post : Int32 → SY → Prop} {r : Int32} (h : post r (fT, fP, fR, fC, fN, fQ, fW, cm, sr, fG, ar, tc, t0, t1, hg, kd, pA, pB, pC, us, rp, rg, r1, r2, bm_cp rY 8 sb, gl, pa, ok, rY, st)) : ∀ (d i n : Nat), i + d = 8 → d < n → wY_match_124 post r fT fP fR fC fN fQ fW cm sr fG n (nI i) ar tc t0 t1 hg kd pA pB pC us rp rg r1 r2 (bm_cp rY i sb) gl pa ok rY st := by
  intro d
  induction d with
  | zero =>
    intro i n hi hn
    obtain ⟨m, rfl⟩ : ∃ m, n = m + 1 := ⟨n - 1, by omega⟩
    have e : i = 8 := by omega
    subst e
    exact br_t (nI_le (a := 8) (Nat.le_refl _) (by decide)) h
  | succ d ih =>
    intro i n hi hn
    obtain ⟨m, rfl⟩ : ∃ m, n = m + 1 := ⟨n - 1, by omega⟩
    have vi : vp_in (nI i) 8 := vp_in_nI (by omega) (by decide)
    exact br_f (nI_ge (b := 8) (by omega) (by decide)) ⟨vi, vi, nm_r (by rw [nI_clamp (by omega), bm_cp_s]) (nm_r (nI_1 i) (ih (i + 1) m (by omega) (by omega)))⟩
theorem yy_sel {post : Int32 → SY → Prop} {r : Int32} (h : post r (fT, fP, fR, fC, fN, fQ, fW, cm, sr, fG, ar, tc, t0, t1, hg, kd, pA, pB, pC, us, rp, rg, r1, r2, bm_cp rY 8 sb, gl, pa, ok, rY, st)) : ∃ n, wY_match_124 post r fT fP fR fC fN fQ fW cm sr fG n 0 ar tc t0 t1 hg kd pA pB pC us rp rg r1 r2 sb gl pa ok rY st := by
  have k := yy_s124 h 8 0 9 rfl (by decide)
  rw [bm_cp0] at k
  exact ⟨9, k⟩
theorem bm_run (hcN : cN ≤ 8) (hP : bm_IP ar kd pl pf ps pA pB pC us sz cN pN) (hT : bm_IT ar tc t0 t1 hX H cN tN) (hF : bm_IF kd pl pf ps tc t0 t1 fi pN tN) (hR : bm_IR rp rg r1 r2 sz pN rN) (ht : t < tN) :
    ∀ (d i gN : Nat) (gl : Nat → Int32), i + d = rN → gN ≤ i → ∃ (res sr' : Int32) (sb' gl' : Nat → Int32) (gN' : Nat), gN' ≤ 8 ∧
      (∀ (post : Int32 → SX → Prop) (n : Nat) (pk : Int32) (rb pp pt : Nat → Int32), d < n → (∀ pk' rb' pp' pt', post res (fT, fP, fR, fC, nI tN, nI pN, nI rN, cm, sr', nI gN', pk', ar, tc, t0, t1, hX, kd, pl, pf, ps, us, fi, rp, rg, r1, r2, sb', gl', rb', pp', pt')) → wX_runMatch_24 post (nI t) n (nI i) fT fP fR fC (nI tN) (nI pN) (nI rN) cm sr (nI gN) pk ar tc t0 t1 hX kd pl pf ps us fi rp rg r1 r2 sb gl rb pp pt) ∧
      (∀ (post : Int32 → SY → Prop) (n : Nat) (hg pa ok rY st : Nat → Int32), d < n → (∀ hg' pa' ok' rY' st', post res (fT, fP, fR, fC, nI tN, nI pN, nI rN, cm, sr', nI gN', ar, tc, t0, t1, hg', kd, pA, pB, pC, us, rp, rg, r1, r2, sb', gl', pa', ok', rY', st')) → wY_match_31 post (nI t) n (nI i) fT fP fR fC (nI tN) (nI pN) (nI rN) cm sr (nI gN) ar tc t0 t1 hg kd pA pB pC us rp rg r1 r2 sb gl pa ok rY st) := by
  have h6 := hP.1
  have t6 := hT.1
  have r8 := hR.1
  intro d
  induction d with
  | zero =>
    intro i gN gl hi hg
    refine ⟨-1, sr, sb, gl, gN, by omega, fun post n pk rb pp pt hn h => ?_, fun post n hg pa ok rY st hn h => ?_⟩
    · obtain ⟨m, rfl⟩ : ∃ m, n = m + 1 := ⟨n - 1, by omega⟩
      exact br_t (nI_le (by omega) (by omega)) (h _ _ _ _)
    · obtain ⟨m, rfl⟩ : ∃ m, n = m + 1 := ⟨n - 1, by omega⟩
      exact br_t (nI_le (by omega) (by omega)) (h _ _ _ _ _)
  | succ d ih =>
    intro i gN gl hi hg
    have hw := hR.2 i (by omega)
    obtain ⟨q, hq, er, hs, _⟩ := id hw
    have vi : vp_in (nI i) 8 := vp_in_nI (by omega) (by decide)
    have ci : (nI i).toNatClampNeg = i := nI_clamp (by omega)
    have er' : rp (nI i).toNatClampNeg = nI q := by rw [ci, er]
    by_cases hf : fi (q * 64 + t) = 0
    · obtain ⟨res, sr', sb', gl', gN', g8, kX, kY⟩ := ih (i + 1) gN gl (by omega) (by omega)
      refine ⟨res, sr', sb', gl', gN', g8, fun post n pk rb pp pt hn h => ?_, fun post n hg pa ok rY st hn h => ?_⟩
      · obtain ⟨m, rfl⟩ : ∃ m, n = m + 1 := ⟨n - 1, by omega⟩
        refine br_f (nI_ge (by omega) (by omega)) ⟨vi, ?_⟩
        rw [er']
        exact xx_fits (by omega) (by omega) hF.1 (br_t hf (nm_r (nI_1 i) (kX post m pk rb pp pt (by omega) h)))
      · obtain ⟨m, rfl⟩ : ∃ m, n = m + 1 := ⟨n - 1, by omega⟩
        refine br_f (nI_ge (by omega) (by omega)) ⟨vi, ?_⟩
        rw [er']
        exact yy_matchPat hcN hP hT hF hq ht (fun pa' ok' hM => br_t hf (nm_r (nI_1 i) (kY post m _ _ _ _ _ (by omega) h)))
    · have hf1 : fi (q * 64 + t) = 1 := bm_01t (hF.1 _) hf
      by_cases g0 : rg i = 0
      · refine ⟨nI i, nI i, bm_cp (fun x => bm_D kd pl pf ps t0 t1 fi x 64 q t) 8 sb, gl, gN, by omega, fun post n pk rb pp pt hn h => ?_, fun post n hg pa ok rY st hn h => ?_⟩
        · obtain ⟨m, rfl⟩ : ∃ m, n = m + 1 := ⟨n - 1, by omega⟩
          refine br_f (nI_ge (by omega) (by omega)) ⟨vi, ?_⟩
          rw [er']
          refine xx_fits (by omega) (by omega) hF.1 (br_f hf (xx_bindRow hcN hP hT hF (by omega) er hq hs ht hf1 (fun pk' rb' pp' pt' hb => ⟨vi, br_t (by rw [ci]; exact g0) (br_f bm_n10 (xx_sel ?_))⟩)))
          rw [bm_cp_e hb]
          exact h _ _ _ _
        · obtain ⟨m, rfl⟩ : ∃ m, n = m + 1 := ⟨n - 1, by omega⟩
          refine br_f (nI_ge (by omega) (by omega)) ⟨vi, ?_⟩
          rw [er']
          refine yy_matchPat hcN hP hT hF hq ht (fun pa' ok' hM => br_f hf ⟨vi, ?_⟩)
          rw [er']
          refine yy_collect hcN hP hT hF hq ht hs hM hf1 (fun rY' st' hb => ⟨vi, br_t (by rw [ci]; exact g0) (br_f bm_n10 (yy_sel ?_))⟩)
          rw [bm_cp_e hb]
          exact h _ _ _ _ _
      · obtain ⟨v, v01, gX, gY⟩ := bm_guard (B := fun x => bm_D kd pl pf ps t0 t1 fi x 64 q t) hcN hT (by omega) hw g0 (fun x hx => bm_D_r hcN hP hT hF (q + 1) q t (by omega) hq ht hf1)
        rcases v01 with rfl | rfl
        · obtain ⟨res, sr', sb', gl', gN', g8, kX, kY⟩ := ih (i + 1) (gN + 1) (upd gl gN (nI i)) (by omega) (by omega)
          refine ⟨res, sr', sb', gl', gN', g8, fun post n pk rb pp pt hn h => ?_, fun post n hg pa ok rY st hn h => ?_⟩
          · obtain ⟨m, rfl⟩ : ∃ m, n = m + 1 := ⟨n - 1, by omega⟩
            refine br_f (nI_ge (by omega) (by omega)) ⟨vi, ?_⟩
            rw [er']
            exact xx_fits (by omega) (by omega) hF.1 (br_f hf (xx_bindRow hcN hP hT hF (by omega) er hq hs ht hf1 (fun pk' rb' pp' pt' hb => gX _ _ _ _ _ _ _ _ _ _ _ _ _ _ _ _ _ _ _ _ _ _ _ (by omega) hb (br_t rfl (nm_r (nI_1 i) (kX post m _ _ _ _ (by omega) h))))))
          · obtain ⟨m, rfl⟩ : ∃ m, n = m + 1 := ⟨n - 1, by omega⟩
            refine br_f (nI_ge (by omega) (by omega)) ⟨vi, ?_⟩
            rw [er']
            refine yy_matchPat hcN hP hT hF hq ht (fun pa' ok' hM => br_f hf ⟨vi, ?_⟩)
            rw [er']
            exact yy_collect hcN hP hT hF hq ht hs hM hf1 (fun rY' st' hb => ⟨vi, br_f (by rw [ci]; exact g0) (br_f (nI_ge (b := 8) (by omega) (by decide)) ⟨vp_in_nI (by omega) (by decide), nm_r (bm_uq (by omega)) (nm_r (nI_1 gN) (gY _ _ _ _ _ _ _ _ _ _ _ _ _ _ _ _ _ _ _ _ _ _ hb (fun hg' => br_t rfl (nm_r (nI_1 i) (kY post m _ _ _ _ _ (by omega) h)))))⟩)⟩)
        · refine ⟨nI i, nI i, bm_cp (fun x => bm_D kd pl pf ps t0 t1 fi x 64 q t) 8 sb, upd gl gN (nI i), gN + 1, by omega, fun post n pk rb pp pt hn h => ?_, fun post n hg pa ok rY st hn h => ?_⟩
          · obtain ⟨m, rfl⟩ : ∃ m, n = m + 1 := ⟨n - 1, by omega⟩
            refine br_f (nI_ge (by omega) (by omega)) ⟨vi, ?_⟩
            rw [er']
            refine xx_fits (by omega) (by omega) hF.1 (br_f hf (xx_bindRow hcN hP hT hF (by omega) er hq hs ht hf1 (fun pk' rb' pp' pt' hb => gX _ _ _ _ _ _ _ _ _ _ _ _ _ _ _ _ _ _ _ _ _ _ _ (by omega) hb (br_f bm_n10 (xx_sel ?_)))))
            rw [bm_cp_e hb]
            exact h _ _ _ _
          · obtain ⟨m, rfl⟩ : ∃ m, n = m + 1 := ⟨n - 1, by omega⟩
            refine br_f (nI_ge (by omega) (by omega)) ⟨vi, ?_⟩
            rw [er']
            refine yy_matchPat hcN hP hT hF hq ht (fun pa' ok' hM => br_f hf ⟨vi, ?_⟩)
            rw [er']
            refine yy_collect hcN hP hT hF hq ht hs hM hf1 (fun rY' st' hb => ⟨vi, br_f (by rw [ci]; exact g0) (br_f (nI_ge (b := 8) (by omega) (by decide)) ⟨vp_in_nI (by omega) (by decide), nm_r (bm_uq (by omega)) (nm_r (nI_1 gN) (gY _ _ _ _ _ _ _ _ _ _ _ _ _ _ _ _ _ _ _ _ _ _ hb (fun hg' => br_f bm_n10 (yy_sel ?_))))⟩)⟩)
            rw [bm_cp_e hb]
            exact h _ _ _ _ _
end
section
variable {T P R cN tN pN rN gN : Nat} {cm sr pk : Int32} {ar tc t0 t1 hX kd pl pf ps us fi rp rg r1 r2 sb gl rb pp pt hg pA pB pC pa ok rY st : Nat → Int32} {H sz : Nat → Nat}
/-- a match on both sides -/
theorem bm_match {k : Nat} (J : bm_J T P R cN tN pN rN gN ar tc t0 t1 hX kd pl pf ps us fi rp rg r1 r2 pA pB pC H sz) (v1 : Int32) :
    ∃ (res : Int32), (∀ (post : Int32 → SX → Prop) (postY : Int32 → SX → Int32 → SY → Prop), (∀ u' v', i_Rel k u' v' → postY res u' res v') → (∀ r u', wpY_match (postY r u') (nI T, nI P, nI R, nI cN, nI tN, nI pN, nI rN, cm, sr, nI gN, ar, tc, t0, t1, hg, kd, pA, pB, pC, us, rp, rg, r1, r2, sb, gl, pa, ok, rY, st) v1 → post r u') → wpX_runMatch post (nI T, nI P, nI R, nI cN, nI tN, nI pN, nI rN, cm, sr, nI gN, pk, ar, tc, t0, t1, hX, kd, pl, pf, ps, us, fi, rp, rg, r1, r2, sb, gl, rb, pp, pt) v1) := by
  obtain ⟨hJ, hAr, hIP, hIT, hIF, hIR⟩ := id J
  have h8 : cN ≤ 8 := hJ.2.2.2.2.2.2.2
  have t6 := hIT.1
  by_cases hc : cm = 0
  · exact ⟨-2, fun post postY hY hp => br_t hc (hp _ _ (br_t hc (hY _ _ (bm_mk J))))⟩
  rcases pk_ix v1 (n := tN) (by omega) with z | z | ⟨t, ht, rfl⟩
  · exact ⟨-2, fun post postY hY hp => br_f hc (xx_term_f (Or.inl z) (br_t rfl (hp _ _ (br_f hc (br_t z (hY _ _ (bm_mk J)))))))⟩
  · exact ⟨-2, fun post postY hY hp => br_f hc (xx_term_f (Or.inr z) (br_t rfl (hp _ _ (br_f hc (br_f (bm_nlt0 (by omega) z) (br_f (Int32.not_lt.mpr z) (hY _ _ (bm_mk J))))))))⟩
  · obtain ⟨res, sr', sb', gl', gN', g8, kX, kY⟩ := bm_run (fT := nI T) (fP := nI P) (fR := nI R) (fC := nI cN) (cm := cm) (sr := -1) (sb := bm_clr (-1) 8 sb) h8 hIP hIT hIF hIR ht rN 0 0 gl (by omega) (by omega)
    refine ⟨res, fun post postY hY hp => br_f hc (xx_term_t ht t6 (br_f bm_n10 (xx_clear ⟨rN + 1, kX _ _ _ _ _ _ (by omega) (fun pk' rb' pp' pt' => hp _ _ (br_f hc (br_f (bm_nge (by omega)) (br_t (nI_lt ht (by omega)) (yy_clear ⟨rN + 1, kY _ _ _ _ _ _ _ (by omega) (fun hg' pa' ok' rY' st' => hY _ _ (bm_mk (H := H) (sz := sz) ?_))⟩)))))⟩)))⟩
    exact ⟨⟨hJ.1, hJ.2.1, hJ.2.2.1, hJ.2.2.2.1, hJ.2.2.2.2.1, hJ.2.2.2.2.2.1, g8, h8⟩, hAr, hIP, hIT, hIF, hIR⟩
end
end
section
/-! the owed statements of match, matchInOrder, rowPatternMatches -/
theorem i_vc_match {k : Nat} {u : SX} {v : SY} (I : i_Rel k u v) (hk : k + 5 ≤ 2563) (v1 : Int32) : wpX_match (fun r u' => wpY_match (fun r' v' => r' = r ∧ i_Rel (k + 5) u' v') v v1) u v1 := by
  obtain ⟨T, P, R, cN, tN, pN, rN, gN, cm, sr, pk, ar, tc, t0, t1, hX, kd, pl, pf, ps, us, fi, rp, rg, r1, r2, sb, gl, rb, pp, pt, hg, pA, pB, pC, pa, ok, rY, st, H, sz, rfl, rfl, J⟩ := I
  obtain ⟨res, h⟩ := bm_match (k := k + 5) (cm := cm) (sr := sr) (pk := pk) (sb := sb) (gl := gl) (rb := rb) (pp := pp) (pt := pt) (hg := hg) (pa := pa) (ok := ok) (rY := rY) (st := st) J v1
  unfold wpX_match
  dsimp only
  refine h _ (fun r u' r' v' => r' = r ∧ i_Rel (k + 5) u' v') (fun u' v' hR => ⟨rfl, hR⟩) (fun r u' hh => ?_)
  obtain ⟨a1, a2, a3, a4, a5, a6, a7, a8, a9, a10, a11, a12, a13, a14, a15, a16, a17, a18, a19, a20, a21, a22, a23, a24, a25, a26, a27, a28, a29, a30, a31⟩ := u'
  exact hh
theorem i_vc_matchInOrder {k : Nat} {u : SX} {v : SY} (I : i_Rel k u v) (hk : k + 5 ≤ 2563) (v1 : Int32) : wpX_matchInOrder (fun r u' => wpY_matchInOrder (fun r' v' => r' = r ∧ i_Rel (k + 5) u' v') v v1) u v1 := by
  obtain ⟨T, P, R, cN, tN, pN, rN, gN, cm, sr, pk, ar, tc, t0, t1, hX, kd, pl, pf, ps, us, fi, rp, rg, r1, r2, sb, gl, rb, pp, pt, hg, pA, pB, pC, pa, ok, rY, st, H, sz, rfl, rfl, J⟩ := I
  obtain ⟨res, h⟩ := bm_match (k := k + 5) (cm := cm) (sr := sr) (pk := pk) (sb := sb) (gl := gl) (rb := rb) (pp := pp) (pt := pt) (hg := hg) (pa := pa) (ok := ok) (rY := rY) (st := st) J v1
  unfold wpX_matchInOrder
  dsimp only
  refine h _ (fun r u' r' v' => match v' with | (a1, a2, a3, a4, a5, a6, a7, a8, a9, a10, a11, a12, a13, a14, a15, a16, a17, a18, a19, a20, a21, a22, a23, a24, a25, a26, a27, a28, a29, a30) => r' = r ∧ i_Rel (k + 5) u' (a1, a2, a3, a4, a5, a6, a7, a8, a9, a10, a11, a12, a13, a14, a15, a16, a17, a18, a19, a20, a21, a22, a23, a24, a25, a26, a27, a28, a29, a30)) (fun u' v' hR => ?_) (fun r u' hh => ?_)
  · obtain ⟨a1, a2, a3, a4, a5, a6, a7, a8, a9, a10, a11, a12, a13, a14, a15, a16, a17, a18, a19, a20, a21, a22, a23, a24, a25, a26, a27, a28, a29, a30⟩ := v'
    exact ⟨rfl, hR⟩
  · obtain ⟨a1, a2, a3, a4, a5, a6, a7, a8, a9, a10, a11, a12, a13, a14, a15, a16, a17, a18, a19, a20, a21, a22, a23, a24, a25, a26, a27, a28, a29, a30, a31⟩ := u'
    unfold wpY_matchInOrder
    exact hh
theorem i_vc_rowPatternMatches {k : Nat} {u : SX} {v : SY} (I : i_Rel k u v) (hk : k + 5 ≤ 2563) (v1 : Int32) (v2 : Int32) : wpX_rowPatternMatches (fun r => wpY_rowPatternMatches (fun r' v' => r' = r ∧ i_Rel (k + 5) u v') v v1 v2) u v1 v2 := by
  obtain ⟨T, P, R, cN, tN, pN, rN, gN, cm, sr, pk, ar, tc, t0, t1, hX, kd, pl, pf, ps, us, fi, rp, rg, r1, r2, sb, gl, rb, pp, pt, hg, pA, pB, pC, pa, ok, rY, st, H, sz, rfl, rfl, J⟩ := I
  obtain ⟨hJ, hAr, hIP, hIT, hIF, hIR⟩ := id J
  have h8 : cN ≤ 8 := hJ.2.2.2.2.2.2.2
  have t6 := hIT.1
  have h6 := hIP.1
  have r8 := hIR.1
  rcases pk_ix v1 (n := rN) (by omega) with z | z | ⟨r, hr, rfl⟩
  · exact br_t z (br_t z ⟨rfl, bm_mk J⟩)
  · exact br_f (bm_nlt0 (by omega) z) (br_f (Int32.not_lt.mpr z) (br_f (bm_nlt0 (by omega) z) (br_t z ⟨rfl, bm_mk J⟩)))
  have vr : vp_in (nI r) 8 := vp_in_nI (by omega) (by decide)
  obtain ⟨q, hq, er, hs, _⟩ := hIR.2 r hr
  have er' : rp (nI r).toNatClampNeg = nI q := by rw [nI_clamp (by omega), er]
  rcases pk_ix v2 (n := tN) (by omega) with z | z | ⟨t, ht, rfl⟩
  · exact br_f (bm_nge (by omega)) (br_t (nI_lt hr (by omega)) (xx_term_f (Or.inl z) (br_t rfl (br_f (bm_nge (by omega)) (br_f (nI_ge hr (by omega)) (br_t z ⟨rfl, bm_mk J⟩))))))
  · exact br_f (bm_nge (by omega)) (br_t (nI_lt hr (by omega)) (xx_term_f (Or.inr z) (br_t rfl (br_f (bm_nge (by omega)) (br_f (nI_ge hr (by omega)) (br_f (bm_nlt0 (by omega) z) (br_f (Int32.not_lt.mpr z) ⟨rfl, bm_mk J⟩)))))))
  · refine br_f (bm_nge (by omega)) (br_t (nI_lt hr (by omega)) (xx_term_t ht t6 (br_f bm_n10 ⟨vr, ?_⟩)))
    rw [er']
    refine xx_fits (by omega) (by omega) hIF.1 ⟨bm_01b (hIF.1 _), br_f (bm_nge (by omega)) (br_f (nI_ge hr (by omega)) (br_f (bm_nge (by omega)) (br_t (nI_lt ht (by omega)) ⟨vr, ?_⟩)))⟩
    rw [er']
    exact yy_matchPat h8 hIP hIT hIF hq ht (fun pa' ok' hM => ⟨bm_01b (hIF.1 _), rfl, bm_mk J⟩)
end
