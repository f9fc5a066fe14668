section
theorem pk_us {f : Nat → Int32} {k : Nat} {x : Int32} : upd f k x k = x := if_pos rfl
theorem pk_un {f : Nat → Int32} {k j : Nat} {x : Int32} (h : j ≠ k) : upd f k x j = f j := if_neg h
theorem pk_sub {a b : Nat} (h : b ≤ a) : nI a - nI b = nI (a - b) := by
  obtain ⟨c, rfl⟩ : ∃ c, a = c + b := ⟨a - b, by omega⟩
  rw [← nI_add, Int32.add_sub_cancel, Nat.add_sub_cancel]
theorem pk_m1 (n : Nat) : nI (n + 1) + (-1) = nI n := by
  rw [← nI_1, Int32.add_assoc, show (1 : Int32) + (-1) = 0 from rfl, Int32.add_zero]
theorem pk_mul (a b : Nat) : nI a * nI b = nI (a * b) := (Int32.ofNat_mul a b).symm
theorem pk_div {a d : Nat} (ha : a < 2 ^ 31) (h0 : 0 < d) (hd : d < 2 ^ 31) : nI a / nI d = nI (a / d) := by
  apply Int32.toInt_inj.mp
  rw [lg_idiv_nonneg (by rw [nI_toInt ha]; omega) (by rw [nI_toInt hd]; omega), nI_toInt ha, nI_toInt hd, nI_toInt (Nat.lt_of_le_of_lt (Nat.div_le_self a d) ha)]
  first | rfl | exact (Int.natCast_ediv _ _).symm
theorem pk_rem {a d : Nat} (ha : a < 2 ^ 31) (h0 : 0 < d) (hd : d < 2 ^ 31) : nI a - nI a / nI d * nI d = nI (a % d) := by
  rw [pk_div ha h0 hd, pk_mul, pk_sub (Nat.div_mul_le_self a d)]
  exact congrArg nI (by have := Nat.div_add_mod' a d; omega)
theorem pk_sub_toInt {a b : Nat} (ha : a < 2 ^ 30) (hb : b < 2 ^ 30) : (nI a - nI b).toInt = (a : Int) - b := by
  rw [Int32.toInt_sub, nI_toInt (by omega), nI_toInt (by omega)]
  exact Int.bmod_eq_of_le (by omega) (by omega)
theorem pk_sneg {a b : Nat} (hb : b < 2 ^ 30) (h : a < b) : nI a - nI b < 0 := by
  rw [Int32.lt_iff_toInt_lt, pk_sub_toInt (by omega) hb, show (0 : Int32).toInt = 0 from by decide]
  omega
theorem pk_ix (x : Int32) {n : Nat} (hn : n < 2 ^ 31) : x < 0 ∨ nI n ≤ x ∨ ∃ j : Nat, j < n ∧ x = nI j := by
  by_cases h : x < 0
  · exact Or.inl h
  · obtain ⟨j, hj, rfl⟩ := nI_of h
    by_cases h2 : j < n
    · exact Or.inr (Or.inr ⟨j, h2, rfl⟩)
    · exact Or.inr (Or.inl (nI_le (by omega) hj))
theorem pk_le {x y : Int32} {A B : Prop} (a b : Nat) (f : a ≤ b → A) (g : b < a → B) (hx : x = nI a := by rfl) (hy : y = nI b := by rfl) (ha : a < 2 ^ 31 := by omega) (hb : b < 2 ^ 31 := by omega) : (x ≤ y → A) ∧ (¬ x ≤ y → B) := by
  subst hx hy
  rw [nI_leI ha hb]
  exact ⟨f, fun z => g (by omega)⟩
theorem pk_lt {x y : Int32} {A B : Prop} (a b : Nat) (f : a < b → A) (g : b ≤ a → B) (hx : x = nI a := by rfl) (hy : y = nI b := by rfl) (ha : a < 2 ^ 31 := by omega) (hb : b < 2 ^ 31 := by omega) : (x < y → A) ∧ (¬ x < y → B) := by
  subst hx hy
  rw [nI_ltI ha hb]
  exact ⟨f, fun z => g (by omega)⟩
theorem pk_eq {x y : Int32} {A B : Prop} (a b : Nat) (f : a = b → A) (g : a ≠ b → B) (hx : x = nI a := by rfl) (hy : y = nI b := by rfl) (ha : a < 2 ^ 31 := by omega) (hb : b < 2 ^ 31 := by omega) : (x = y → A) ∧ (¬ x = y → B) := by
  subst hx hy
  rw [nI_eq ha hb]
  exact ⟨f, g⟩
theorem pk_in {x : Int32} (n N : Nat) (h : n < N) (hx : x = nI n := by rfl) (hN : N < 2 ^ 31 := by omega) : vp_in x N := by
  subst hx
  exact vp_in_nI h hN
theorem pk_cl {x : Int32} (n : Nat) (hx : x = nI n := by rfl) (h : n < 2 ^ 31 := by omega) : x.toNatClampNeg = n := by
  subst hx
  exact nI_clamp h
theorem pk_loop {σ : Type} (W : Nat → Nat → σ → Prop) (I : Nat → σ → Prop) (e i0 : Nat) (s : σ) (hi : i0 ≤ e) (h0 : I i0 s) (hx : ∀ n s, I e s → W (n + 1) e s)
    (hs : ∀ n i s, i < e → I i s → (∀ s', I (i + 1) s' → W n (i + 1) s') → W (n + 1) i s) : ∃ n, W n i0 s :=
  ⟨e + 1, loop_i W I e hx hs (e + 1) i0 s hi (by omega) h0⟩
end
section
/-! sums of small naturals as Int32 -/
theorem zq_m35 (a : Nat) : nI a * 35 = nI (a * 35) := pk_mul a 35
theorem zq_m36 (a : Nat) : nI a * 36 = nI (a * 36) := pk_mul a 36
theorem zq_m2 (a : Nat) : nI a * 2 = nI (a * 2) := pk_mul a 2
theorem zq_2m (a : Nat) : 2 * nI a = nI (2 * a) := pk_mul 2 a
theorem zq_a2 (a : Nat) : nI a + 2 = nI (a + 2) := nI_add a 2
theorem zq_a32 (a : Nat) : nI a + 32 = nI (a + 32) := nI_add a 32
theorem zq_32a (a : Nat) : 32 + nI a = nI (32 + a) := nI_add 32 a
theorem zq_ix {a b c : Nat} (ha : a < 6) (hb : b ≤ 6) (hc : c < 6) : a * b + c < 36 := by
  have h : a * b ≤ 5 * 6 := Nat.mul_le_mul (by omega) hb
  omega
theorem zq_6 {D : Nat} (h2 : 2 ≤ D) (h6 : D ≤ 6) : D = 2 ∨ D = 3 ∨ D = 4 ∨ D = 5 ∨ D = 6 := by omega
/-- the number of an instantiation, and back -/
theorem zq_dec {D n : Nat} (h2 : 2 ≤ D) (h6 : D ≤ 6) (hn : n < D * D * D) : n / (D * D) < D ∧ n / D % D < D ∧ n % D < D ∧ (n / (D * D) * D + n / D % D) * D + n % D = n := by
  rcases zq_6 h2 h6 with rfl | rfl | rfl | rfl | rfl <;> omega
theorem zq_enc {D a b c : Nat} (h2 : 2 ≤ D) (h6 : D ≤ 6) (ha : a < D) (hb : b < D) (hc : c < D) : (a * D + b) * D + c < D * D * D ∧ ((a * D + b) * D + c) / (D * D) = a ∧ ((a * D + b) * D + c) / D % D = b ∧ ((a * D + b) * D + c) % D = c := by
  rcases zq_6 h2 h6 with rfl | rfl | rfl | rfl | rfl <;> omega
theorem zq_216 {D : Nat} (h6 : D ≤ 6) : D * D * D ≤ 216 :=
  Nat.mul_le_mul (Nat.mul_le_mul h6 h6) h6
theorem zq_36 {D : Nat} (h6 : D ≤ 6) : D * D ≤ 36 := Nat.mul_le_mul h6 h6
/-! codes and specs -/
def zq_code (D : Nat) (x : Int32) : Prop := (∃ d, 1 ≤ d ∧ d ≤ D ∧ x = nI d) ∨ x = -1 ∨ x = -2 ∨ x = -3
def zq_spec (D : Nat) (p q : Int32) : Prop := (p = 0 ∧ q = 0) ∨ (zq_code D p ∧ q = 0) ∨ (zq_code D p ∧ zq_code D q)
def zq_cv (x : Int32) (a b c : Nat) : Nat := if 0 < x then x.toNatClampNeg else if x = -1 then a else if x = -2 then b else c
def zq_sr (p q : Int32) : Nat := if p = 0 then 0 else if q = 0 then 1 else 2
def zq_sp (p q : Int32) (a b c : Nat) : Nat × Nat := if q = 0 then (1, if p = 0 then 1 else zq_cv p a b c) else (zq_cv p a b c, zq_cv q a b c)
def zq_good (D r R C : Nat) : Prop := 1 ≤ R ∧ R ≤ D ∧ 1 ≤ C ∧ C ≤ D ∧ (r ≠ 2 → R = 1) ∧ (r = 0 → C = 1) ∧ r ≤ 2
theorem zq_neg {x : Int32} (h : x < 0) (h3 : -3 ≤ x) : x = -1 ∨ x = -2 ∨ x = -3 := by
  have e1 := Int32.lt_iff_toInt_lt.mp h
  have e2 := Int32.le_iff_toInt_le.mp h3
  rw [show (0 : Int32).toInt = 0 from by decide] at e1
  rw [show (-3 : Int32).toInt = -3 from by decide] at e2
  have e3 : x.toInt = -1 ∨ x.toInt = -2 ∨ x.toInt = -3 := by omega
  rcases e3 with e | e | e
  · exact Or.inl (Int32.toInt_inj.mp (e.trans (by decide)))
  · exact Or.inr (Or.inl (Int32.toInt_inj.mp (e.trans (by decide))))
  · exact Or.inr (Or.inr (Int32.toInt_inj.mp (e.trans (by decide))))
theorem zq_pos {d : Nat} (h1 : 1 ≤ d) (h : d < 2 ^ 31) : (0 : Int32) < nI d := nI_lt (a := 0) h1 h
theorem zq_cv_d {d a b c : Nat} (h1 : 1 ≤ d) (h : d < 2 ^ 31) : zq_cv (nI d) a b c = d := by
  unfold zq_cv
  rw [if_pos (zq_pos h1 h), nI_clamp h]
theorem zq_cv_1 {a b c : Nat} : zq_cv (-1) a b c = a := by
  unfold zq_cv
  rw [if_neg (by decide), if_pos rfl]
theorem zq_cv_2 {a b c : Nat} : zq_cv (-2) a b c = b := by
  unfold zq_cv
  rw [if_neg (by decide), if_neg (by decide), if_pos rfl]
theorem zq_cv_3 {a b c : Nat} : zq_cv (-3) a b c = c := by
  unfold zq_cv
  rw [if_neg (by decide), if_neg (by decide), if_neg (by decide)]
theorem zq_code_ne {D : Nat} {x : Int32} (h6 : D ≤ 6) (h : zq_code D x) : ¬ x = 0 := by
  rcases h with ⟨d, h1, h2, rfl⟩ | rfl | rfl | rfl
  · exact nI_ne0 h1 (by omega)
  · decide
  · decide
  · decide
theorem zq_code_cv {D a b c : Nat} {x : Int32} (h6 : D ≤ 6) (h : zq_code D x) (ha : 1 ≤ a ∧ a ≤ D) (hb : 1 ≤ b ∧ b ≤ D) (hc : 1 ≤ c ∧ c ≤ D) : 1 ≤ zq_cv x a b c ∧ zq_cv x a b c ≤ D := by
  rcases h with ⟨d, h1, h2, rfl⟩ | rfl | rfl | rfl
  · rw [zq_cv_d h1 (by omega)]
    exact ⟨h1, h2⟩
  · rw [zq_cv_1]; exact ha
  · rw [zq_cv_2]; exact hb
  · rw [zq_cv_3]; exact hc
theorem zq_spec_good {D a b c : Nat} {p q : Int32} (h2 : 2 ≤ D) (h6 : D ≤ 6) (h : zq_spec D p q) (ha : 1 ≤ a ∧ a ≤ D) (hb : 1 ≤ b ∧ b ≤ D) (hc : 1 ≤ c ∧ c ≤ D) : zq_good D (zq_sr p q) (zq_sp p q a b c).1 (zq_sp p q a b c).2 := by
  unfold zq_good zq_sr zq_sp
  rcases h with ⟨rfl, rfl⟩ | ⟨h, rfl⟩ | ⟨h, h'⟩
  · rw [if_pos rfl, if_pos rfl, if_pos rfl]
    dsimp only
    omega
  · have e := zq_code_cv h6 h ha hb hc
    rw [if_neg (zq_code_ne h6 h), if_pos rfl, if_pos rfl, if_neg (zq_code_ne h6 h)]
    dsimp only
    omega
  · have e := zq_code_cv h6 h ha hb hc
    have e' := zq_code_cv h6 h' ha hb hc
    simp only [if_neg (zq_code_ne h6 h), if_neg (zq_code_ne h6 h')]
    omega
/-! a node: kind and arguments against the ranks of the nodes before it -/
def zq_nd (D i : Nat) (rk : Nat → Nat) (k x y z : Int32) : Prop :=
  (k = 1 ∧ zq_spec D x y ∧ rk i = zq_sr x y) ∨
  (∃ p q, p < i ∧ q < i ∧ x = nI p ∧ y = nI q ∧ (k = 2 ∨ k = 3) ∧ rk i = max (rk p) (rk q)) ∨
  (∃ p q, p < i ∧ q < i ∧ x = nI p ∧ y = nI q ∧ k = 4 ∧ rk p = 2 ∧ rk q = 2 ∧ rk i = 2) ∨
  (∃ p, p < i ∧ x = nI p ∧ k = 5 ∧ rk i = rk p) ∨
  (∃ p, p < i ∧ x = nI p ∧ k = 6 ∧ zq_spec D y z ∧ rk i = zq_sr y z) ∨
  (∃ p s, p < i ∧ x = nI p ∧ k = 7 ∧ y = nI s ∧ s < rk p ∧ rk i + 1 = rk p)
/-- the shape of a node (rows, columns), or none: the node traps -/
def zq_ru (k x y z : Int32) (a b c : Nat) (rk R C : Nat → Nat) : Option (Nat × Nat) :=
  if k = 1 then some (zq_sp x y a b c)
  else if k = 2 ∨ k = 3 then
    (if (R x.toNatClampNeg = R y.toNatClampNeg ∨ R x.toNatClampNeg = 1 ∨ R y.toNatClampNeg = 1) ∧ (C x.toNatClampNeg = C y.toNatClampNeg ∨ C x.toNatClampNeg = 1 ∨ C y.toNatClampNeg = 1)
     then some (if R x.toNatClampNeg = 1 then R y.toNatClampNeg else R x.toNatClampNeg, if C x.toNatClampNeg = 1 then C y.toNatClampNeg else C x.toNatClampNeg) else none)
  else if k = 4 then (if C x.toNatClampNeg = R y.toNatClampNeg then some (R x.toNatClampNeg, C y.toNatClampNeg) else none)
  else if k = 5 then some (if rk x.toNatClampNeg = 2 then (C x.toNatClampNeg, R x.toNatClampNeg) else (R x.toNatClampNeg, C x.toNatClampNeg))
  else if k = 6 then (if (zq_sp y z a b c).1 * (zq_sp y z a b c).2 = R x.toNatClampNeg * C x.toNatClampNeg then some (zq_sp y z a b c) else none)
  else some (1, if rk x.toNatClampNeg = 2 ∧ y = 0 then C x.toNatClampNeg else R x.toNatClampNeg)
theorem zq_ru1 {x y z : Int32} {a b c : Nat} {rk R C : Nat → Nat} : zq_ru 1 x y z a b c rk R C = some (zq_sp x y a b c) := if_pos rfl
theorem zq_ru2 {k z : Int32} {p q a b c : Nat} {rk R C : Nat → Nat} (hp : p < 2 ^ 31) (hq : q < 2 ^ 31) (hk : k = 2 ∨ k = 3) : zq_ru k (nI p) (nI q) z a b c rk R C = if (R p = R q ∨ R p = 1 ∨ R q = 1) ∧ (C p = C q ∨ C p = 1 ∨ C q = 1) then some (if R p = 1 then R q else R p, if C p = 1 then C q else C p) else none := by
  unfold zq_ru
  rw [if_neg (by rcases hk with rfl | rfl <;> decide), if_pos hk, nI_clamp hp, nI_clamp hq]
theorem zq_ru4 {z : Int32} {p q a b c : Nat} {rk R C : Nat → Nat} (hp : p < 2 ^ 31) (hq : q < 2 ^ 31) : zq_ru 4 (nI p) (nI q) z a b c rk R C = if C p = R q then some (R p, C q) else none := by
  unfold zq_ru
  rw [if_neg (by decide), if_neg (by decide), if_pos rfl, nI_clamp hp, nI_clamp hq]
theorem zq_ru5 {y z : Int32} {p a b c : Nat} {rk R C : Nat → Nat} (hp : p < 2 ^ 31) : zq_ru 5 (nI p) y z a b c rk R C = some (if rk p = 2 then (C p, R p) else (R p, C p)) := by
  unfold zq_ru
  rw [if_neg (by decide), if_neg (by decide), if_neg (by decide), if_pos rfl, nI_clamp hp]
theorem zq_ru6 {y z : Int32} {p a b c : Nat} {rk R C : Nat → Nat} (hp : p < 2 ^ 31) : zq_ru 6 (nI p) y z a b c rk R C = if (zq_sp y z a b c).1 * (zq_sp y z a b c).2 = R p * C p then some (zq_sp y z a b c) else none := by
  unfold zq_ru
  rw [if_neg (by decide), if_neg (by decide), if_neg (by decide), if_neg (by decide), if_pos rfl, nI_clamp hp]
theorem zq_ru7 {y z : Int32} {p a b c : Nat} {rk R C : Nat → Nat} (hp : p < 2 ^ 31) : zq_ru 7 (nI p) y z a b c rk R C = some (1, if rk p = 2 ∧ y = 0 then C p else R p) := by
  unfold zq_ru
  rw [if_neg (by decide), if_neg (by decide), if_neg (by decide), if_neg (by decide), if_neg (by decide), nI_clamp hp]
theorem zq_nd_2 {D i : Nat} {rk : Nat → Nat} {k x y z : Int32} (h : zq_nd D i rk k x y z) (hr : ∀ j, j < i → rk j ≤ 2) : rk i ≤ 2 := by
  have sr : ∀ p q, zq_sr p q ≤ 2 := by
    intro p q
    unfold zq_sr
    split
    · omega
    · split <;> omega
  rcases h with ⟨_, _, e⟩ | ⟨p, q, hp, hq, _, _, _, e⟩ | ⟨p, q, hp, hq, _, _, _, _, _, e⟩ | ⟨p, hp, _, _, e⟩ | ⟨p, hp, _, _, _, e⟩ | ⟨p, s, hp, _, _, _, _, e⟩
  · rw [e]; exact sr _ _
  · have := hr p hp; have := hr q hq; omega
  · omega
  · have := hr p hp; omega
  · rw [e]; exact sr _ _
  · have := hr p hp; omega
/-- ranks and shapes that agree before i -/
theorem zq_nd_c {D i : Nat} {rk rk' : Nat → Nat} {k x y z : Int32} (h : zq_nd D i rk k x y z) (e : ∀ j, j ≤ i → rk' j = rk j) : zq_nd D i rk' k x y z := by
  rcases h with ⟨h1, h2, h3⟩ | ⟨p, q, hp, hq, h1, h2, h3, h4⟩ | ⟨p, q, hp, hq, h1, h2, h3, h4, h5, h6⟩ | ⟨p, hp, h1, h2, h3⟩ | ⟨p, hp, h1, h2, h3, h4⟩ | ⟨p, s, hp, h1, h2, h3, h4, h5⟩
  · exact Or.inl ⟨h1, h2, by rw [e i (by omega)]; exact h3⟩
  · exact Or.inr (Or.inl ⟨p, q, hp, hq, h1, h2, h3, by rw [e i (by omega), e p (by omega), e q (by omega)]; exact h4⟩)
  · exact Or.inr (Or.inr (Or.inl ⟨p, q, hp, hq, h1, h2, h3, by rw [e p (by omega)]; exact h4, by rw [e q (by omega)]; exact h5, by rw [e i (by omega)]; exact h6⟩))
  · exact Or.inr (Or.inr (Or.inr (Or.inl ⟨p, hp, h1, h2, by rw [e i (by omega), e p (by omega)]; exact h3⟩)))
  · exact Or.inr (Or.inr (Or.inr (Or.inr (Or.inl ⟨p, hp, h1, h2, h3, by rw [e i (by omega)]; exact h4⟩))))
  · exact Or.inr (Or.inr (Or.inr (Or.inr (Or.inr ⟨p, s, hp, h1, h2, h3, by rw [e p (by omega)]; exact h4, by rw [e i (by omega), e p (by omega)]; exact h5⟩))))
theorem zq_ru_c {D i a b c : Nat} {rk rk' R R' C C' : Nat → Nat} {k x y z : Int32} (hi : i < 2 ^ 31) (h : zq_nd D i rk k x y z) (e : ∀ j, j < i → rk' j = rk j) (eR : ∀ j, j < i → R' j = R j) (eC : ∀ j, j < i → C' j = C j) : zq_ru k x y z a b c rk' R' C' = zq_ru k x y z a b c rk R C := by
  rcases h with ⟨rfl, h2, h3⟩ | ⟨p, q, hp, hq, rfl, rfl, h3, h4⟩ | ⟨p, q, hp, hq, rfl, rfl, rfl, h4, h5, h6⟩ | ⟨p, hp, rfl, rfl, h3⟩ | ⟨p, hp, rfl, rfl, h3, h4⟩ | ⟨p, s, hp, rfl, rfl, h3, h4, h5⟩
  · rw [zq_ru1, zq_ru1]
  · rw [zq_ru2 (by omega) (by omega) h3, zq_ru2 (by omega) (by omega) h3, eR p hp, eR q hq, eC p hp, eC q hq]
  · rw [zq_ru4 (by omega) (by omega), zq_ru4 (by omega) (by omega), eR p hp, eR q hq, eC p hp, eC q hq]
  · rw [zq_ru5 (by omega), zq_ru5 (by omega), eR p hp, eC p hp, e p hp]
  · rw [zq_ru6 (by omega), zq_ru6 (by omega), eR p hp, eC p hp]
  · rw [zq_ru7 (by omega), zq_ru7 (by omega), eR p hp, eC p hp, e p hp]
theorem zq_ru_good {D i a b c r s : Nat} {rk R C : Nat → Nat} {k x y z : Int32} (h2 : 2 ≤ D) (h6 : D ≤ 6) (hi : i < 2 ^ 31) (ha : 1 ≤ a ∧ a ≤ D) (hb : 1 ≤ b ∧ b ≤ D) (hc : 1 ≤ c ∧ c ≤ D) (h : zq_nd D i rk k x y z) (hg : ∀ j, j < i → zq_good D (rk j) (R j) (C j)) (e : zq_ru k x y z a b c rk R C = some (r, s)) : zq_good D (rk i) r s := by
  rcases h with ⟨rfl, h3, h4⟩ | ⟨p, q, hp, hq, rfl, rfl, h3, h4⟩ | ⟨p, q, hp, hq, rfl, rfl, rfl, h4, h5, h7⟩ | ⟨p, hp, rfl, rfl, h3⟩ | ⟨p, hp, rfl, rfl, h3, h4⟩ | ⟨p, t, hp, rfl, rfl, h3, h4, h5⟩
  · rw [zq_ru1] at e
    have g := zq_spec_good h2 h6 h3 ha hb hc
    rw [Option.some.inj e, ← h4] at g
    exact g
  · rw [zq_ru2 (by omega) (by omega) h3] at e
    have gp := hg p hp
    have gq := hg q hq
    unfold zq_good at gp gq ⊢
    split at e
    · cases e
      split <;> split <;> omega
    · cases e
  · rw [zq_ru4 (by omega) (by omega)] at e
    have gp := hg p hp
    have gq := hg q hq
    unfold zq_good at gp gq ⊢
    split at e
    · cases e
      omega
    · cases e
  · rw [zq_ru5 (by omega)] at e
    have gp := hg p hp
    unfold zq_good at gp ⊢
    split at e
    · cases e
      omega
    · cases e
      omega
  · rw [zq_ru6 (by omega)] at e
    have g := zq_spec_good h2 h6 h3 ha hb hc
    split at e
    · rw [Option.some.inj e, ← h4] at g
      exact g
    · cases e
  · rw [zq_ru7 (by omega)] at e
    have gp := hg p hp
    unfold zq_good at gp ⊢
    cases e
    split <;> omega
/-! left aligned sizes, as the reference holds them -/
def zq_l0 (r R C : Nat) : Nat := if r = 2 then R else C
def zq_l1 (r C : Nat) : Nat := if r = 2 then C else 1
/-- the shapes of the first t nodes under a, b, c; t is the trap, or all of them -/
def zq_sh (D n : Nat) (K X Y Z : Nat → Int32) (rk : Nat → Nat) (a b c t : Nat) (R C : Nat → Nat) : Prop :=
  t ≤ n ∧ (∀ i, i < t → zq_good D (rk i) (R i) (C i) ∧ zq_ru (K i) (X i) (Y i) (Z i) a b c rk R C = some (R i, C i)) ∧ (t < n → zq_ru (K t) (X t) (Y t) (Z t) a b c rk R C = none)
/-! values -/
def zq_fo (f : (Nat → Int32) → Nat → Int32) (b : Nat) (v : Nat → Int32) : Nat → (Nat → Int32)
  | 0 => v
  | e + 1 => upd (zq_fo f b v e) (b + e) (f (zq_fo f b v e) e)
def zq_sm (f : Nat → Int32) : Nat → Int32
  | 0 => 0
  | e + 1 => zq_sm f e + f e
def zq_bi (R C i j : Nat) : Nat := (if R = 1 then 0 else i) * C + (if C = 1 then 0 else j)
def zq_op (k a b : Int32) : Int32 := if k = 2 then a + b else a * b
def zq_fin (d : Nat → Int32) (b : Nat) (_ : Nat → Int32) (e : Nat) : Int32 := d (b + e)
def zq_fcp (p : Nat) (v : Nat → Int32) (e : Nat) : Int32 := v (p * 36 + e)
def zq_fbc (k : Int32) (p q Rp Cp Rq Cq C : Nat) (v : Nat → Int32) (e : Nat) : Int32 := zq_op k (v (p * 36 + zq_bi Rp Cp (e / C) (e % C))) (v (q * 36 + zq_bi Rq Cq (e / C) (e % C)))
def zq_fmm (p q m C : Nat) (v : Nat → Int32) (e : Nat) : Int32 := zq_sm (fun t => v (p * 36 + e / C * m + t) * v (q * 36 + t * C + e % C)) m
def zq_ftr (p R C : Nat) (v : Nat → Int32) (e : Nat) : Int32 := v (p * 36 + e % C * R + e / C)
def zq_fsc (p R C : Nat) (v : Nat → Int32) (e : Nat) : Int32 := zq_sm (fun t => v (p * 36 + t * C + e)) R
def zq_fsr (p C : Nat) (v : Nat → Int32) (e : Nat) : Int32 := zq_sm (fun t => v (p * 36 + e * C + t)) C
theorem zq_dm {i j C : Nat} (h : j < C) : (i * C + j) / C = i ∧ (i * C + j) % C = j := by
  have h0 : 0 < C := by omega
  constructor
  · rw [Nat.mul_comm, Nat.mul_add_div h0, Nat.div_eq_of_lt h]; omega
  · rw [Nat.mul_comm, Nat.mul_add_mod]; exact Nat.mod_eq_of_lt h
end
section
/-! what holds in all admissible instantiations: pure -/
def zq_any (A : Nat → Prop) (i : Nat) : Prop := ∃ m, m < i ∧ A m
def zq_same (A : Nat → Prop) (g : Nat → Int32) (i : Nat) : Prop := ∀ m m', m < i → m' < i → A m → A m' → g m = g m'
def zq_eqs (A : Nat → Prop) (g h : Nat → Int32) (i : Nat) : Prop := ∀ m, m < i → A m → g m = h m
/-- a truth value -/
def zq_fl (x : Int32) (P : Prop) : Prop := (x = 1 ∧ P) ∨ (x = 0 ∧ ¬ P)
theorem zq_fl_i {x : Int32} {P Q : Prop} (h : zq_fl x P) (e : P ↔ Q) : zq_fl x Q := by
  rcases h with ⟨h1, h2⟩ | ⟨h1, h2⟩
  · exact Or.inl ⟨h1, e.mp h2⟩
  · exact Or.inr ⟨h1, fun q => h2 (e.mpr q)⟩
theorem zq_fl_1 {P : Prop} (h : P) : zq_fl 1 P := Or.inl ⟨rfl, h⟩
theorem zq_fl_0 {P : Prop} (h : ¬ P) : zq_fl 0 P := Or.inr ⟨rfl, h⟩
theorem zq_fl_n0 {x : Int32} {P : Prop} (h : zq_fl x P) (e : ¬ x = 0) : P := by
  rcases h with ⟨h1, h2⟩ | ⟨h1, h2⟩
  · exact h2
  · exact absurd h1 e
theorem zq_fl_e0 {x : Int32} {P : Prop} (h : zq_fl x P) (e : x = 0) : ¬ P := by
  rcases h with ⟨h1, h2⟩ | ⟨h1, h2⟩
  · rw [e] at h1; exact absurd h1 (by decide)
  · exact h2
theorem zq_any_0 {A : Nat → Prop} : ¬ zq_any A 0 := fun ⟨_, h, _⟩ => absurd h (by omega)
theorem zq_same_0 {A : Nat → Prop} {g : Nat → Int32} : zq_same A g 0 := fun m _ h => absurd h (by omega)
theorem zq_eqs_0 {A : Nat → Prop} {g h : Nat → Int32} : zq_eqs A g h 0 := fun m z => absurd z (by omega)
theorem zq_lt {m i : Nat} (h : m < i + 1) : m < i ∨ m = i := by omega
theorem zq_any_n {A : Nat → Prop} {i : Nat} (h : ¬ A i) : zq_any A i ↔ zq_any A (i + 1) := by
  constructor
  · exact fun ⟨m, h1, h2⟩ => ⟨m, by omega, h2⟩
  · intro ⟨m, h1, h2⟩
    rcases zq_lt h1 with h3 | rfl
    · exact ⟨m, h3, h2⟩
    · exact absurd h2 h
theorem zq_any_y {A : Nat → Prop} {i : Nat} (h : A i) : zq_any A (i + 1) := ⟨i, by omega, h⟩
theorem zq_eqs_n {A : Nat → Prop} {g f : Nat → Int32} {i : Nat} (h : ¬ A i) : zq_eqs A g f i ↔ zq_eqs A g f (i + 1) := by
  constructor
  · intro z m h1 h2
    rcases zq_lt h1 with h3 | rfl
    · exact z m h3 h2
    · exact absurd h2 h
  · exact fun z m h1 h2 => z m (by omega) h2
theorem zq_eqs_y {A : Nat → Prop} {g f : Nat → Int32} {i : Nat} (e : g i = f i) : zq_eqs A g f i ↔ zq_eqs A g f (i + 1) := by
  constructor
  · intro z m h1 h2
    rcases zq_lt h1 with h3 | rfl
    · exact z m h3 h2
    · exact e
  · exact fun z m h1 h2 => z m (by omega) h2
theorem zq_eqs_f {A : Nat → Prop} {g f : Nat → Int32} {i j : Nat} (h : A i) (hj : i < j) (e : ¬ g i = f i) : ¬ zq_eqs A g f j := fun z => e (z i hj h)
theorem zq_same_n {A : Nat → Prop} {g : Nat → Int32} {i : Nat} (h : ¬ A i) : zq_same A g i ↔ zq_same A g (i + 1) := by
  constructor
  · intro z m m' h1 h1' h2 h2'
    rcases zq_lt h1 with h3 | rfl
    · rcases zq_lt h1' with h3' | rfl
      · exact z m m' h3 h3' h2 h2'
      · exact absurd h2' h
    · exact absurd h2 h
  · exact fun z m m' h1 h1' h2 h2' => z m m' (by omega) (by omega) h2 h2'
theorem zq_same_y {A : Nat → Prop} {g : Nat → Int32} {i m0 : Nat} (h0 : m0 < i) (hA : A m0) (e : g i = g m0) : zq_same A g i ↔ zq_same A g (i + 1) := by
  constructor
  · intro z m m' h1 h1' h2 h2'
    rcases zq_lt h1 with h3 | rfl
    · rcases zq_lt h1' with h3' | rfl
      · exact z m m' h3 h3' h2 h2'
      · rw [e]; exact z m m0 h3 h0 h2 hA
    · rcases zq_lt h1' with h3' | rfl
      · rw [e]; exact z m0 m' h0 h3' hA h2'
      · rfl
  · exact fun z m m' h1 h1' h2 h2' => z m m' (by omega) (by omega) h2 h2'
theorem zq_same_f {A : Nat → Prop} {g : Nat → Int32} {i j m0 : Nat} (h0 : m0 < j) (hj : i < j) (hA : A m0) (h : A i) (e : ¬ g i = g m0) : ¬ zq_same A g j := fun z => e (z i m0 hj h0 h hA)
theorem zq_same_1 {A : Nat → Prop} {g : Nat → Int32} {i : Nat} (h : ¬ zq_any A i) : zq_same A g (i + 1) := by
  intro m m' h1 h1' h2 h2'
  rcases zq_lt h1 with h3 | rfl
  · exact absurd ⟨m, h3, h2⟩ h
  · rcases zq_lt h1' with h3' | rfl
    · exact absurd ⟨m', h3', h2'⟩ h
    · rfl
theorem zq_same_d {A : Nat → Prop} {g : Nat → Int32} {i j : Nat} (z : zq_same A g j) (h : i ≤ j) : zq_same A g i :=
  fun m m' h1 h1' h2 h2' => z m m' (by omega) (by omega) h2 h2'
/-- the common size, or 0 -/
def zq_cm (A : Nat → Prop) (g : Nat → Int32) (N : Nat) (r : Int32) : Prop :=
  (zq_same A g N ∧ ∃ m, m < N ∧ A m ∧ r = g m) ∨ (¬ (zq_any A N ∧ zq_same A g N) ∧ r = 0)
theorem zq_cm_u {A : Nat → Prop} {g : Nat → Int32} {N : Nat} {r r' : Int32} (h : zq_cm A g N r) (h' : zq_cm A g N r') : r' = r := by
  rcases h with ⟨h1, m, h2, h3, h4⟩ | ⟨h1, h2⟩
  · rcases h' with ⟨h1', m', h2', h3', h4'⟩ | ⟨h1', h2'⟩
    · rw [h4, h4']; exact h1 m' m h2' h2 h3' h3
    · exact absurd ⟨⟨m, h2, h3⟩, h1⟩ h1'
  · rcases h' with ⟨h1', m', h2', h3', h4'⟩ | ⟨h1', h2'⟩
    · exact absurd ⟨⟨m', h2', h3'⟩, h1'⟩ h1
    · rw [h2, h2']
/-- the answer of dimOf -/
def zq_dr (A : Nat → Prop) (g s0 s1 s2 : Nat → Int32) (N : Nat) (r : Int32) : Prop :=
  (¬ zq_any A N ∧ r = 0) ∨ (zq_same A g N ∧ ∃ m, m < N ∧ A m ∧ r = g m) ∨
  (zq_any A N ∧ ¬ zq_same A g N ∧ ((zq_eqs A g s0 N ∧ r = -1) ∨ (¬ zq_eqs A g s0 N ∧ zq_eqs A g s1 N ∧ r = -2) ∨
    (¬ zq_eqs A g s0 N ∧ ¬ zq_eqs A g s1 N ∧ zq_eqs A g s2 N ∧ r = -3) ∨ (¬ zq_eqs A g s0 N ∧ ¬ zq_eqs A g s1 N ∧ ¬ zq_eqs A g s2 N ∧ r = -4)))
theorem zq_dr_u {A : Nat → Prop} {g s0 s1 s2 : Nat → Int32} {N : Nat} {r r' : Int32} (h : zq_dr A g s0 s1 s2 N r) (h' : zq_dr A g s0 s1 s2 N r') : r' = r := by
  rcases h with ⟨h1, h2⟩ | ⟨h1, m, h2, h3, h4⟩ | ⟨h1, h2, h3⟩
  · rcases h' with ⟨h1', h2'⟩ | ⟨h1', m', h2', h3', h4'⟩ | ⟨h1', h2', h3'⟩
    · rw [h2, h2']
    · exact absurd ⟨m', h2', h3'⟩ h1
    · exact absurd h1' h1
  · rcases h' with ⟨h1', h2'⟩ | ⟨h1', m', h2', h3', h4'⟩ | ⟨h1', h2', h3'⟩
    · exact absurd ⟨m, h2, h3⟩ h1'
    · rw [h4, h4']; exact h1 m' m h2' h2 h3' h3
    · exact absurd h1 h2'
  · rcases h' with ⟨h1', h2'⟩ | ⟨h1', m', h2', h3', h4'⟩ | ⟨h1', h2', h3'⟩
    · exact absurd h1 h1'
    · exact absurd h1' h2
    · rcases h3 with ⟨a1, a2⟩ | ⟨a1, a2, a3⟩ | ⟨a1, a2, a3, a4⟩ | ⟨a1, a2, a3, a4⟩ <;>
        rcases h3' with ⟨b1, b2⟩ | ⟨b1, b2, b3⟩ | ⟨b1, b2, b3, b4⟩ | ⟨b1, b2, b3, b4⟩ <;>
        first | (exact b2.trans a2.symm) | (exact b3.trans a3.symm) | (exact b4.trans a4.symm) | (exact absurd b1 a1) | (exact absurd a1 b1) | (exact absurd b2 a2) | (exact absurd a2 b2) | (exact absurd b3 a3) | (exact absurd a3 b3)
end
section
/-! the table of sizes, a stretch of 35 cells for each instantiation: pure -/
def zq_tb (D c : Nat) (K X Y Z : Nat → Int32) (rk : Nat → Nat) (sz tr : Nat → Int32) (n : Nat) : Prop :=
  sz (n * 35 + 32) = nI (n / (D * D) + 1) ∧ sz (n * 35 + 33) = nI (n / D % D + 1) ∧ sz (n * 35 + 34) = nI (n % D + 1) ∧
  ∃ (t : Nat) (R C : Nat → Nat), zq_sh D c K X Y Z rk (n / (D * D) + 1) (n / D % D + 1) (n % D + 1) t R C ∧
    (∀ i, i < t → sz (n * 35 + i * 2) = nI (R i) ∧ sz (n * 35 + i * 2 + 1) = nI (C i)) ∧
    ((t = c ∧ tr n = -1) ∨ (t < c ∧ tr n = nI t))
theorem zq_m1 {t : Nat} (h : t < 2 ^ 31) : ¬ nI t = -1 := by
  intro e
  have h1 := congrArg Int32.toInt e
  rw [nI_toInt h, show (-1 : Int32).toInt = -1 from by decide] at h1
  omega
theorem zq_tb_fr {D c m : Nat} {K X Y Z : Nat → Int32} {rk : Nat → Nat} {sz tr sz' tr' : Nat → Int32} (hc : c ≤ 16) (h : zq_tb D c K X Y Z rk sz tr m) (hs : ∀ j, j < 35 → sz' (m * 35 + j) = sz (m * 35 + j)) (ht : tr' m = tr m) : zq_tb D c K X Y Z rk sz' tr' m := by
  obtain ⟨h1, h2, h3, t, R, C, h4, h5, h6⟩ := h
  refine ⟨by rw [hs 32 (by omega)]; exact h1, by rw [hs 33 (by omega)]; exact h2, by rw [hs 34 (by omega)]; exact h3, t, R, C, h4, fun i hi => ?_, by rw [ht]; exact h6⟩
  have ht' := h4.1
  have e0 := hs (i * 2) (by omega)
  have e1 := hs (i * 2 + 1) (by omega)
  rw [← Nat.add_assoc] at e1
  rw [e0, e1]
  exact h5 i hi
def zq_ex (c r : Nat) (f : Nat → Nat) : Nat → Nat := fun j => if j = c then r else f j
theorem zq_ex_s {c r : Nat} {f : Nat → Nat} : zq_ex c r f c = r := if_pos rfl
theorem zq_ex_n {c r j : Nat} {f : Nat → Nat} (h : j < c) : zq_ex c r f j = f j := if_neg (by omega)
section
variable {D c a b d t : Nat} {K X Y Z : Nat → Int32} {rk rk' R C : Nat → Nat} {k x y z : Int32}
theorem zq_sh_old (hc : c < 2 ^ 31) (hn : ∀ i, i < c → zq_nd D i rk (K i) (X i) (Y i) (Z i)) (er : ∀ j, j < c → rk' j = rk j) (h : zq_sh D c K X Y Z rk a b d t R C) (ht : t < c) : zq_sh D (c + 1) (upd K c k) (upd X c x) (upd Y c y) (upd Z c z) rk' a b d t R C := by
  obtain ⟨h1, h2, h3⟩ := h
  refine ⟨by omega, fun i hi => ?_, fun _ => ?_⟩
  · rw [pk_un (f := K) (by omega), pk_un (f := X) (by omega), pk_un (f := Y) (by omega), pk_un (f := Z) (by omega), er i (by omega), zq_ru_c (by omega) (hn i (by omega)) (fun j hj => er j (by omega)) (fun _ _ => rfl) (fun _ _ => rfl)]
    exact h2 i hi
  · rw [pk_un (f := K) (by omega), pk_un (f := X) (by omega), pk_un (f := Y) (by omega), pk_un (f := Z) (by omega), zq_ru_c (by omega) (hn t ht) (fun j hj => er j (by omega)) (fun _ _ => rfl) (fun _ _ => rfl)]
    exact h3 ht
theorem zq_sh_trap (hc : c < 2 ^ 31) (hn : ∀ i, i < c → zq_nd D i rk (K i) (X i) (Y i) (Z i)) (er : ∀ j, j < c → rk' j = rk j) (h : zq_sh D c K X Y Z rk a b d c R C) (e : zq_ru k x y z a b d rk' R C = none) : zq_sh D (c + 1) (upd K c k) (upd X c x) (upd Y c y) (upd Z c z) rk' a b d c R C := by
  obtain ⟨h1, h2, h3⟩ := h
  refine ⟨by omega, fun i hi => ?_, fun _ => ?_⟩
  · rw [pk_un (f := K) (by omega), pk_un (f := X) (by omega), pk_un (f := Y) (by omega), pk_un (f := Z) (by omega), er i (by omega), zq_ru_c (by omega) (hn i (by omega)) (fun j hj => er j (by omega)) (fun _ _ => rfl) (fun _ _ => rfl)]
    exact h2 i hi
  · rw [pk_us, pk_us, pk_us, pk_us]
    exact e
theorem zq_sh_ok {r s : Nat} (hc : c < 2 ^ 31) (hn : ∀ i, i < c → zq_nd D i rk (K i) (X i) (Y i) (Z i)) (hn' : zq_nd D c rk' k x y z) (er : ∀ j, j < c → rk' j = rk j) (h : zq_sh D c K X Y Z rk a b d c R C) (e : zq_ru k x y z a b d rk' R C = some (r, s)) (hg : zq_good D (rk' c) r s) : zq_sh D (c + 1) (upd K c k) (upd X c x) (upd Y c y) (upd Z c z) rk' a b d (c + 1) (zq_ex c r R) (zq_ex c s C) := by
  obtain ⟨h1, h2, h3⟩ := h
  refine ⟨by omega, fun i hi => ?_, fun z => absurd z (by omega)⟩
  by_cases hic : i = c
  · subst hic
    rw [pk_us, pk_us, pk_us, pk_us, zq_ex_s, zq_ex_s, zq_ru_c hc hn' (fun j hj => rfl) (fun j hj => zq_ex_n hj) (fun j hj => zq_ex_n hj)]
    exact ⟨hg, e⟩
  · have hi' : i < c := by omega
    rw [pk_un (f := K) (by omega), pk_un (f := X) (by omega), pk_un (f := Y) (by omega), pk_un (f := Z) (by omega), er i (by omega), zq_ex_n hi', zq_ex_n hi', zq_ru_c (by omega) (hn i hi') (fun j hj => er j (by omega)) (fun j hj => zq_ex_n (by omega)) (fun j hj => zq_ex_n (by omega))]
    exact h2 i hi'
end
section
variable {D c n : Nat} {K X Y Z : Nat → Int32} {rk rk' : Nat → Nat} {k x y z : Int32} {sz tr sz' tr' : Nat → Int32}
theorem zq_tb_old (hc : c < 16) (hn : ∀ i, i < c → zq_nd D i rk (K i) (X i) (Y i) (Z i)) (er : ∀ j, j < c → rk' j = rk j) (h : zq_tb D c K X Y Z rk sz tr n) (ht : ¬ tr n = -1) : zq_tb D (c + 1) (upd K c k) (upd X c x) (upd Y c y) (upd Z c z) rk' sz tr n := by
  obtain ⟨h1, h2, h3, t, R, C, h4, h5, h6⟩ := h
  rcases h6 with ⟨_, h6⟩ | ⟨h7, h6⟩
  · exact absurd h6 ht
  · exact ⟨h1, h2, h3, t, R, C, zq_sh_old (by omega) hn er h4 h7, h5, Or.inr ⟨by omega, h6⟩⟩
/-- what a step that shapes node c under n may do to the table -/
theorem zq_tb_new (hc : c < 16) (hn : ∀ i, i < c → zq_nd D i rk (K i) (X i) (Y i) (Z i)) (hn' : zq_nd D c rk' k x y z) (er : ∀ j, j < c → rk' j = rk j)
    (h1 : sz (n * 35 + 32) = nI (n / (D * D) + 1)) (h2 : sz (n * 35 + 33) = nI (n / D % D + 1)) (h3 : sz (n * 35 + 34) = nI (n % D + 1))
    {R C : Nat → Nat} (h4 : zq_sh D c K X Y Z rk (n / (D * D) + 1) (n / D % D + 1) (n % D + 1) c R C) (h5 : ∀ i, i < c → sz (n * 35 + i * 2) = nI (R i) ∧ sz (n * 35 + i * 2 + 1) = nI (C i))
    (fr : ∀ j, j ≠ n * 35 + c * 2 → j ≠ n * 35 + c * 2 + 1 → sz' j = sz j)
    (w : (∃ r s, zq_ru k x y z (n / (D * D) + 1) (n / D % D + 1) (n % D + 1) rk' R C = some (r, s) ∧ zq_good D (rk' c) r s ∧ sz' (n * 35 + c * 2) = nI r ∧ sz' (n * 35 + c * 2 + 1) = nI s ∧ tr' n = -1) ∨
      (zq_ru k x y z (n / (D * D) + 1) (n / D % D + 1) (n % D + 1) rk' R C = none ∧ tr' n = nI c)) :
    zq_tb D (c + 1) (upd K c k) (upd X c x) (upd Y c y) (upd Z c z) rk' sz' tr' n := by
  refine ⟨by rw [fr _ (by omega) (by omega)]; exact h1, by rw [fr _ (by omega) (by omega)]; exact h2, by rw [fr _ (by omega) (by omega)]; exact h3, ?_⟩
  rcases w with ⟨r, s, e, hg, e1, e2, e3⟩ | ⟨e, e3⟩
  · refine ⟨c + 1, zq_ex c r R, zq_ex c s C, zq_sh_ok (by omega) hn hn' er h4 e hg, fun i hi => ?_, Or.inl ⟨rfl, e3⟩⟩
    by_cases hic : i = c
    · subst hic
      rw [zq_ex_s, zq_ex_s]
      exact ⟨e1, e2⟩
    · rw [zq_ex_n (by omega), zq_ex_n (by omega), fr _ (by omega) (by omega), fr _ (by omega) (by omega)]
      exact h5 i (by omega)
  · refine ⟨c, R, C, zq_sh_trap (by omega) hn er h4 e, fun i hi => ?_, Or.inr ⟨by omega, e3⟩⟩
    rw [fr _ (by omega) (by omega), fr _ (by omega) (by omega)]
    exact h5 i hi
end
end
section
/-! the value rule of a node: pure -/
def zq_f (k x y : Int32) (i : Nat) (d : Nat → Int32) (rk R C : Nat → Nat) : (Nat → Int32) → Nat → Int32 :=
  if k = 1 then zq_fin d (i * 36)
  else if k = 2 ∨ k = 3 then zq_fbc k x.toNatClampNeg y.toNatClampNeg (R x.toNatClampNeg) (C x.toNatClampNeg) (R y.toNatClampNeg) (C y.toNatClampNeg) (C i)
  else if k = 4 then zq_fmm x.toNatClampNeg y.toNatClampNeg (C x.toNatClampNeg) (C i)
  else if k = 5 then (if rk x.toNatClampNeg = 2 then zq_ftr x.toNatClampNeg (R i) (C i) else zq_fcp x.toNatClampNeg)
  else if k = 6 then zq_fcp x.toNatClampNeg
  else (if rk x.toNatClampNeg = 2 ∧ y = 0 then zq_fsc x.toNatClampNeg (R x.toNatClampNeg) (C x.toNatClampNeg) else zq_fsr x.toNatClampNeg (C x.toNatClampNeg))
section
variable {x y k : Int32} {p q i : Nat} {d : Nat → Int32} {rk R C : Nat → Nat}
theorem zq_f1 : zq_f 1 x y i d rk R C = zq_fin d (i * 36) := if_pos rfl
theorem zq_f2 (hp : p < 2 ^ 31) (hq : q < 2 ^ 31) (hk : k = 2 ∨ k = 3) : zq_f k (nI p) (nI q) i d rk R C = zq_fbc k p q (R p) (C p) (R q) (C q) (C i) := by
  unfold zq_f
  rw [if_neg (by rcases hk with rfl | rfl <;> decide), if_pos hk, nI_clamp hp, nI_clamp hq]
theorem zq_f4 (hp : p < 2 ^ 31) (hq : q < 2 ^ 31) : zq_f 4 (nI p) (nI q) i d rk R C = zq_fmm p q (C p) (C i) := by
  unfold zq_f
  rw [if_neg (by decide), if_neg (by decide), if_pos rfl, nI_clamp hp, nI_clamp hq]
theorem zq_f5t (hp : p < 2 ^ 31) (h : rk p = 2) : zq_f 5 (nI p) y i d rk R C = zq_ftr p (R i) (C i) := by
  unfold zq_f
  rw [if_neg (by decide), if_neg (by decide), if_neg (by decide), if_pos rfl, nI_clamp hp, if_pos h]
theorem zq_f5c (hp : p < 2 ^ 31) (h : ¬ rk p = 2) : zq_f 5 (nI p) y i d rk R C = zq_fcp p := by
  unfold zq_f
  rw [if_neg (by decide), if_neg (by decide), if_neg (by decide), if_pos rfl, nI_clamp hp, if_neg h]
theorem zq_f6 (hp : p < 2 ^ 31) : zq_f 6 (nI p) y i d rk R C = zq_fcp p := by
  unfold zq_f
  rw [if_neg (by decide), if_neg (by decide), if_neg (by decide), if_neg (by decide), if_pos rfl, nI_clamp hp]
theorem zq_f7c (hp : p < 2 ^ 31) (h : rk p = 2 ∧ y = 0) : zq_f 7 (nI p) y i d rk R C = zq_fsc p (R p) (C p) := by
  unfold zq_f
  rw [if_neg (by decide), if_neg (by decide), if_neg (by decide), if_neg (by decide), if_neg (by decide), nI_clamp hp, if_pos h]
theorem zq_f7r (hp : p < 2 ^ 31) (h : ¬ (rk p = 2 ∧ y = 0)) : zq_f 7 (nI p) y i d rk R C = zq_fsr p (C p) := by
  unfold zq_f
  rw [if_neg (by decide), if_neg (by decide), if_neg (by decide), if_neg (by decide), if_neg (by decide), nI_clamp hp, if_neg h]
end
/-- the elements after the first i nodes are computed -/
def zq_ev (K X Y d : Nat → Int32) (rk R C : Nat → Nat) (v : Nat → Int32) : Nat → (Nat → Int32)
  | 0 => v
  | i + 1 => zq_fo (zq_f (K i) (X i) (Y i) i d rk R C) (i * 36) (zq_ev K X Y d rk R C v i) (R i * C i)
end
section
/-! the class: reading methods and shape rules -/
section
variable {mx ins cnt st cp : Int32} {K X Y Z rs dt sz tr bd el : Nat → Int32}
theorem zx_rows {post : Int32 → Prop} {b i : Nat} (h : b + i * 2 < 7560) (hp : post (sz (b + i * 2))) : wpX_rows post (mx, ins, cnt, st, cp, K, X, Y, Z, rs, dt, sz, tr, bd, el) (nI b) (nI i) := by
  have e : nI b + nI i * 2 = nI (b + i * 2) := by rw [zq_m2, nI_add]
  unfold wpX_rows
  dsimp only
  rw [e, nI_clamp (by omega)]
  exact ⟨vp_in_nI h (by omega), hp⟩
theorem zx_cols {post : Int32 → Prop} {b i : Nat} (h : b + i * 2 + 1 < 7560) (hp : post (sz (b + i * 2 + 1))) : wpX_columns post (mx, ins, cnt, st, cp, K, X, Y, Z, rs, dt, sz, tr, bd, el) (nI b) (nI i) := by
  have e : nI b + nI i * 2 + 1 = nI (b + i * 2 + 1) := by rw [zq_m2, nI_add, nI_1]
  unfold wpX_columns
  dsimp only
  rw [e, nI_clamp (by omega)]
  exact ⟨vp_in_nI h (by omega), hp⟩
theorem zx_elc {post : Int32 → Prop} {b i : Nat} (h : b + i * 2 + 1 < 7560) (hp : post (sz (b + i * 2) * sz (b + i * 2 + 1))) : wpX_elementCount post (mx, ins, cnt, st, cp, K, X, Y, Z, rs, dt, sz, tr, bd, el) (nI b) (nI i) := by
  have e : nI b + nI i * 2 = nI (b + i * 2) := by rw [zq_m2, nI_add]
  unfold wpX_elementCount
  dsimp only
  refine nm_r e ?_
  rw [nI_1, nI_clamp (by omega), nI_clamp (by omega)]
  exact ⟨vp_in_nI (by omega) (by omega), vp_in_nI h (by omega), hp⟩
theorem zx_set {post : Int32 → SX → Prop} {b i : Nat} {r c : Int32} (h : b + i * 2 + 1 < 7560) (hp : post 1 (mx, ins, cnt, st, cp, K, X, Y, Z, rs, dt, upd (upd sz (b + i * 2) r) (b + i * 2 + 1) c, tr, bd, el)) : wpX_setShape post (mx, ins, cnt, st, cp, K, X, Y, Z, rs, dt, sz, tr, bd, el) (nI b) (nI i) r c := by
  have e : nI b + nI i * 2 = nI (b + i * 2) := by rw [zq_m2, nI_add]
  unfold wpX_setShape
  dsimp only
  rw [e, nI_1, nI_clamp (by omega), nI_clamp (by omega)]
  exact ⟨vp_in_nI (by omega) (by omega), nm_e ⟨vp_in_nI h (by omega), nm_e hp⟩⟩
theorem zx_soc {post : Int32 → Prop} {D b a0 a1 a2 : Nat} {x : Int32} (h6 : D ≤ 6) (hb : b + 34 < 7560) (hc : zq_code D x) (e0 : sz (b + 32) = nI a0) (e1 : sz (b + 33) = nI a1) (e2 : sz (b + 34) = nI a2) (hp : post (nI (zq_cv x a0 a1 a2))) : wpX_sizeOfCode post (mx, ins, cnt, st, cp, K, X, Y, Z, rs, dt, sz, tr, bd, el) (nI b) x := by
  unfold wpX_sizeOfCode
  dsimp only
  rcases hc with ⟨d, h1, h2, rfl⟩ | rfl | rfl | rfl
  · rw [zq_cv_d h1 (by omega)] at hp
    exact br_f (nI_nle h1 (by omega)) hp
  · rw [zq_cv_1] at hp
    refine br_t (by decide) ?_
    have e : nI b + 32 - (-1) - 1 = nI (b + 32) := by
      rw [← nI_add b 32]
      show nI b + 32 - (-1) - 1 = nI b + 32
      grind
    rw [e, nI_clamp (by omega), e0]
    exact ⟨vp_in_nI (by omega) (by omega), hp⟩
  · rw [zq_cv_2] at hp
    refine br_t (by decide) ?_
    have e : nI b + 32 - (-2) - 1 = nI (b + 33) := by
      rw [← nI_add b 33]
      show nI b + 32 - (-2) - 1 = nI b + 33
      grind
    rw [e, nI_clamp (by omega), e1]
    exact ⟨vp_in_nI (by omega) (by omega), hp⟩
  · rw [zq_cv_3] at hp
    refine br_t (by decide) ?_
    have e : nI b + 32 - (-3) - 1 = nI (b + 34) := by
      rw [← nI_add b 34]
      show nI b + 32 - (-3) - 1 = nI b + 34
      grind
    rw [e, nI_clamp (by omega), e2]
    exact ⟨vp_in_nI (by omega) (by omega), hp⟩
theorem zx_spec {post : Int32 → SX → Prop} {D b i a0 a1 a2 : Nat} {p q : Int32} (h6 : D ≤ 6) (hb : b + 34 < 7560) (hi : i < 16) (hs : zq_spec D p q) (e0 : sz (b + 32) = nI a0) (e1 : sz (b + 33) = nI a1) (e2 : sz (b + 34) = nI a2)
    (hp : post 1 (mx, ins, cnt, st, cp, K, X, Y, Z, rs, dt, upd (upd sz (b + i * 2) (nI (zq_sp p q a0 a1 a2).1)) (b + i * 2 + 1) (nI (zq_sp p q a0 a1 a2).2), tr, bd, el)) : wpX_shapeSpec post (mx, ins, cnt, st, cp, K, X, Y, Z, rs, dt, sz, tr, bd, el) (nI b) (nI i) p q := by
  unfold wpX_shapeSpec
  dsimp only
  unfold zq_sp at hp
  rcases hs with ⟨rfl, rfl⟩ | ⟨hc, rfl⟩ | ⟨hc, hc'⟩
  · rw [if_pos rfl, if_pos rfl] at hp
    refine br_t rfl (br_t rfl ?_)
    unfold wX_shapeSpec_47
    exact zx_set (by omega) ⟨rfl, hp⟩
  · rw [if_pos rfl, if_neg (zq_code_ne h6 hc)] at hp
    refine br_t rfl (br_f (zq_code_ne h6 hc) ?_)
    refine zx_soc h6 hb hc e0 e1 e2 ?_
    unfold wX_shapeSpec_47
    exact zx_set (by omega) ⟨rfl, hp⟩
  · rw [if_neg (zq_code_ne h6 hc')] at hp
    refine br_f (zq_code_ne h6 hc') ?_
    refine zx_soc h6 hb hc e0 e1 e2 ?_
    refine zx_soc h6 hb hc' e0 e1 e2 ?_
    exact zx_set (by omega) ⟨rfl, hp⟩
theorem zx_bro {post : Int32 → Prop} {u v : Nat} (hu : u < 100) (hv : v < 100) (ht : (u = v ∨ u = 1 ∨ v = 1) → post 1) (hf : ¬ (u = v ∨ u = 1 ∨ v = 1) → post 0) : wpX_broadcasts post (nI u) (nI v) :=
  pk_eq u v (fun e => ht (Or.inl e)) (fun n1 => pk_eq u 1 (fun e => ht (Or.inr (Or.inl e))) (fun n2 => pk_eq v 1 (fun e => ht (Or.inr (Or.inr e))) (fun n3 => hf (by omega))))
theorem zx_shBc {post : Int32 → SX → Prop} {b i p q Rp Rq Cp Cq : Nat} (hb : b + 34 < 7560) (hi : i < 16) (hp : p < i) (hq : q < i) (ex : X i = nI p) (ey : Y i = nI q)
    (r0 : Rp < 100) (r1 : Rq < 100) (c0 : Cp < 100) (c1 : Cq < 100)
    (er : sz (b + p * 2) = nI Rp) (ec : sz (b + p * 2 + 1) = nI Cp) (fr : sz (b + q * 2) = nI Rq) (fc : sz (b + q * 2 + 1) = nI Cq)
    (ok : ((Rp = Rq ∨ Rp = 1 ∨ Rq = 1) ∧ (Cp = Cq ∨ Cp = 1 ∨ Cq = 1)) → post 1 (mx, ins, cnt, st, cp, K, X, Y, Z, rs, dt, upd (upd sz (b + i * 2) (nI (if Rp = 1 then Rq else Rp))) (b + i * 2 + 1) (nI (if Cp = 1 then Cq else Cp)), tr, bd, el))
    (no : ¬ ((Rp = Rq ∨ Rp = 1 ∨ Rq = 1) ∧ (Cp = Cq ∨ Cp = 1 ∨ Cq = 1)) → post 0 (mx, ins, cnt, st, cp, K, X, Y, Z, rs, dt, sz, tr, bd, el)) : wpX_shapeBroadcast post (mx, ins, cnt, st, cp, K, X, Y, Z, rs, dt, sz, tr, bd, el) (nI b) (nI i) := by
  unfold wpX_shapeBroadcast
  dsimp only
  rw [nI_clamp (by omega)]
  refine ⟨vp_in_nI hi (by omega), nm_r ex ⟨vp_in_nI hi (by omega), nm_r ey ?_⟩⟩
  refine zx_rows (by omega) (zx_rows (by omega) (zx_cols (by omega) (zx_cols (by omega) ?_)))
  rw [er, ec, fr, fc]
  refine zx_bro r0 r1 (fun h1 => br_f (by decide) ?_) (fun h1 => br_t rfl (no (fun z => h1 z.1)))
  refine zx_bro c0 c1 (fun h2 => br_f (by decide) ?_) (fun h2 => br_t rfl (no (fun z => h2 z.2)))
  have ok := ok ⟨h1, h2⟩
  refine pk_eq Rp 1 (fun z1 => ?_) (fun z1 => ?_)
  · rw [if_pos z1] at ok
    unfold wX_shapeBroadcast_84
    refine pk_eq Cp 1 (fun z2 => ?_) (fun z2 => ?_)
    · rw [if_pos z2] at ok
      unfold wX_shapeBroadcast_99
      exact zx_set (by omega) ⟨rfl, ok⟩
    · rw [if_neg z2] at ok
      unfold wX_shapeBroadcast_99
      exact zx_set (by omega) ⟨rfl, ok⟩
  · rw [if_neg z1] at ok
    unfold wX_shapeBroadcast_84
    refine pk_eq Cp 1 (fun z2 => ?_) (fun z2 => ?_)
    · rw [if_pos z2] at ok
      unfold wX_shapeBroadcast_99
      exact zx_set (by omega) ⟨rfl, ok⟩
    · rw [if_neg z2] at ok
      unfold wX_shapeBroadcast_99
      exact zx_set (by omega) ⟨rfl, ok⟩
theorem zx_shMm {post : Int32 → SX → Prop} {b i p q Rp Rq Cp Cq : Nat} (hb : b + 34 < 7560) (hi : i < 16) (hp : p < i) (hq : q < i) (ex : X i = nI p) (ey : Y i = nI q)
    (r1 : Rq < 100) (c0 : Cp < 100)
    (er : sz (b + p * 2) = nI Rp) (ec : sz (b + p * 2 + 1) = nI Cp) (fr : sz (b + q * 2) = nI Rq) (fc : sz (b + q * 2 + 1) = nI Cq)
    (ok : Cp = Rq → post 1 (mx, ins, cnt, st, cp, K, X, Y, Z, rs, dt, upd (upd sz (b + i * 2) (nI Rp)) (b + i * 2 + 1) (nI Cq), tr, bd, el))
    (no : ¬ Cp = Rq → post 0 (mx, ins, cnt, st, cp, K, X, Y, Z, rs, dt, sz, tr, bd, el)) : wpX_shapeMatmul post (mx, ins, cnt, st, cp, K, X, Y, Z, rs, dt, sz, tr, bd, el) (nI b) (nI i) := by
  unfold wpX_shapeMatmul
  dsimp only
  rw [nI_clamp (by omega)]
  refine ⟨vp_in_nI hi (by omega), nm_r ex ⟨vp_in_nI hi (by omega), nm_r ey ?_⟩⟩
  refine zx_cols (by omega) (zx_rows (by omega) ?_)
  rw [ec, fr]
  refine pk_eq Cp Rq (fun z => ?_) (fun z => no z)
  refine zx_rows (by omega) (zx_cols (by omega) ?_)
  rw [er, fc]
  exact zx_set (by omega) ⟨rfl, ok z⟩
theorem zx_shTr {post : Int32 → SX → Prop} {b i p Rp Cp r : Nat} (hb : b + 34 < 7560) (hi : i < 16) (hp : p < i) (ex : X i = nI p) (hr : r ≤ 2) (eR : rs i = nI r)
    (er : sz (b + p * 2) = nI Rp) (ec : sz (b + p * 2 + 1) = nI Cp)
    (o2 : r = 2 → post 1 (mx, ins, cnt, st, cp, K, X, Y, Z, rs, dt, upd (upd sz (b + i * 2) (nI Cp)) (b + i * 2 + 1) (nI Rp), tr, bd, el))
    (o1 : ¬ r = 2 → post 1 (mx, ins, cnt, st, cp, K, X, Y, Z, rs, dt, upd (upd sz (b + i * 2) (nI Rp)) (b + i * 2 + 1) (nI Cp), tr, bd, el)) : wpX_shapeTranspose post (mx, ins, cnt, st, cp, K, X, Y, Z, rs, dt, sz, tr, bd, el) (nI b) (nI i) := by
  unfold wpX_shapeTranspose
  dsimp only
  rw [nI_clamp (by omega), ex]
  refine ⟨vp_in_nI hi (by omega), zx_rows (by omega) ⟨vp_in_nI hi (by omega), zx_cols (by omega) ⟨vp_in_nI hi (by omega), ?_⟩⟩⟩
  rw [er, ec]
  refine pk_eq r 2 (fun z => ?_) (fun z => ?_) eR rfl
  · exact zx_set (by omega) ⟨rfl, o2 z⟩
  · exact zx_set (by omega) ⟨rfl, o1 z⟩
theorem zx_smr {post : Int32 → Prop} {i p r : Nat} (hi : i < 16) (hp : p < i) (ex : X i = nI p) (hr : r ≤ 2) (eR : rs p = nI r) (h1 : r = 2 ∧ Y i = 0 → post 1) (h0 : ¬ (r = 2 ∧ Y i = 0) → post 0) : wpX_sumsRows post (mx, ins, cnt, st, cp, K, X, Y, Z, rs, dt, sz, tr, bd, el) (nI i) := by
  unfold wpX_sumsRows
  dsimp only
  rw [nI_clamp (by omega), ex, nI_clamp (by omega)]
  refine ⟨vp_in_nI hi (by omega), vp_in_nI (by omega) (by omega), ?_⟩
  refine pk_eq r 2 (fun z => ⟨vp_in_nI hi (by omega), br_c (fun z2 => h1 ⟨z, z2⟩) (fun z2 => h0 (fun w => z2 w.2))⟩) (fun z => h0 (fun w => z w.1)) eR rfl
theorem zx_shSu {post : Int32 → SX → Prop} {b i p Rp Cp r : Nat} (hb : b + 34 < 7560) (hi : i < 16) (hp : p < i) (ex : X i = nI p) (hr : r ≤ 2) (eR : rs p = nI r)
    (er : sz (b + p * 2) = nI Rp) (ec : sz (b + p * 2 + 1) = nI Cp)
    (ok : post 1 (mx, ins, cnt, st, cp, K, X, Y, Z, rs, dt, upd (upd sz (b + i * 2) (nI 1)) (b + i * 2 + 1) (nI (if r = 2 ∧ Y i = 0 then Cp else Rp)), tr, bd, el)) : wpX_shapeSum post (mx, ins, cnt, st, cp, K, X, Y, Z, rs, dt, sz, tr, bd, el) (nI b) (nI i) := by
  unfold wpX_shapeSum
  dsimp only
  refine zx_smr hi hp ex hr eR (fun z => ?_) (fun z => ?_)
  · rw [if_pos z] at ok
    refine br_f (by decide) ⟨vp_in_nI hi (by omega), ?_⟩
    rw [nI_clamp (by omega), ex]
    refine zx_cols (by omega) ?_
    rw [ec]
    unfold wX_shapeSum_33
    exact zx_set (by omega) ⟨rfl, ok⟩
  · rw [if_neg z] at ok
    refine br_t rfl ⟨vp_in_nI hi (by omega), ?_⟩
    rw [nI_clamp (by omega), ex]
    refine zx_rows (by omega) ?_
    rw [er]
    unfold wX_shapeSum_33
    exact zx_set (by omega) ⟨rfl, ok⟩
theorem zx_upd2 {f : Nat → Int32} {k : Nat} {r s : Int32} : (∀ j, j ≠ k → j ≠ k + 1 → upd (upd f k r) (k + 1) s j = f j) ∧ upd (upd f k r) (k + 1) s k = r ∧ upd (upd f k r) (k + 1) s (k + 1) = s :=
  ⟨fun j h1 h2 => by rw [pk_un h2, pk_un h1], by rw [pk_un (by omega), pk_us], pk_us⟩
theorem zx_shape {post : Int32 → SX → Prop} {D b i a0 a1 a2 : Nat} {rk R C : Nat → Nat} (h6 : D ≤ 6) (hb : b + 34 < 7560) (hi : i < 16) (hn : zq_nd D i rk (K i) (X i) (Y i) (Z i))
    (hr : ∀ j, j ≤ i → rs j = nI (rk j) ∧ rk j ≤ 2) (e0 : sz (b + 32) = nI a0) (e1 : sz (b + 33) = nI a1) (e2 : sz (b + 34) = nI a2)
    (hc : ∀ j, j < i → sz (b + j * 2) = nI (R j) ∧ sz (b + j * 2 + 1) = nI (C j)) (hg : ∀ j, j < i → R j ≤ 6 ∧ C j ≤ 6) (hv : ∀ p q, zq_spec D p q → (zq_sp p q a0 a1 a2).1 ≤ 6 ∧ (zq_sp p q a0 a1 a2).2 ≤ 6)
    (ok : ∀ r s sz', zq_ru (K i) (X i) (Y i) (Z i) a0 a1 a2 rk R C = some (r, s) → (∀ j, j ≠ b + i * 2 → j ≠ b + i * 2 + 1 → sz' j = sz j) → sz' (b + i * 2) = nI r → sz' (b + i * 2 + 1) = nI s → post 1 (mx, ins, cnt, st, cp, K, X, Y, Z, rs, dt, sz', tr, bd, el))
    (no : ∀ sz', zq_ru (K i) (X i) (Y i) (Z i) a0 a1 a2 rk R C = none → (∀ j, j ≠ b + i * 2 → j ≠ b + i * 2 + 1 → sz' j = sz j) → post 0 (mx, ins, cnt, st, cp, K, X, Y, Z, rs, dt, sz', tr, bd, el)) : wpX_shape post (mx, ins, cnt, st, cp, K, X, Y, Z, rs, dt, sz, tr, bd, el) (nI b) (nI i) := by
  unfold wpX_shape
  dsimp only
  rw [nI_clamp (by omega)]
  refine ⟨vp_in_nI hi (by omega), ?_⟩
  rcases hn with ⟨ek, h2, h3⟩ | ⟨p, q, hp, hq, ex, ey, ek, h4⟩ | ⟨p, q, hp, hq, ex, ey, ek, h4, h5, h7⟩ | ⟨p, hp, ex, ek, h3⟩ | ⟨p, hp, ex, ek, h3, h4⟩ | ⟨p, s, hp, ex, ek, h3, h4, h5⟩
  · refine nm_r ek (br_f (by decide) (br_f (by decide) (br_t rfl ⟨vp_in_nI hi (by omega), vp_in_nI hi (by omega), ?_⟩)))
    refine zx_spec h6 hb hi h2 e0 e1 e2 ⟨rfl, ?_⟩
    exact ok _ _ _ (by rw [ek]; exact zq_ru1) zx_upd2.1 zx_upd2.2.1 zx_upd2.2.2
  · have main : wX_shape_63 post (nI b) (nI i) mx ins cnt st cp K X Y Z rs dt sz tr bd el := by
      unfold wX_shape_63
      rw [ex, ey, zq_ru2 (by omega) (by omega) ek] at ok no
      refine zx_shBc hb hi hp hq ex ey (by have := hg p hp; omega) (by have := hg q hq; omega) (by have := hg p hp; omega) (by have := hg q hq; omega) (hc p hp).1 (hc p hp).2 (hc q hq).1 (hc q hq).2 (fun z => ⟨rfl, ?_⟩) (fun z => ⟨rfl, ?_⟩)
      · exact ok _ _ _ (if_pos z) zx_upd2.1 zx_upd2.2.1 zx_upd2.2.2
      · exact no _ (if_neg z) (fun _ _ _ => rfl)
    rcases ek with ek | ek
    · exact nm_r ek (br_f (by decide) (br_f (by decide) (br_f (by decide) (br_t rfl main))))
    · exact nm_r ek (br_f (by decide) (br_f (by decide) (br_f (by decide) (br_f (by decide) (br_t rfl main)))))
  · refine nm_r ek (br_f (by decide) (br_f (by decide) (br_f (by decide) (br_f (by decide) (br_f (by decide) (br_t rfl ?_))))))
    rw [ek, ex, ey, zq_ru4 (by omega) (by omega)] at ok no
    refine zx_shMm hb hi hp hq ex ey (by have := hg q hq; omega) (by have := hg p hp; omega) (hc p hp).1 (hc p hp).2 (hc q hq).1 (hc q hq).2 (fun z => ⟨rfl, ?_⟩) (fun z => ⟨rfl, ?_⟩)
    · exact ok _ _ _ (if_pos z) zx_upd2.1 zx_upd2.2.1 zx_upd2.2.2
    · exact no _ (if_neg z) (fun _ _ _ => rfl)
  · refine nm_r ek (br_f (by decide) (br_f (by decide) (br_f (by decide) (br_f (by decide) (br_f (by decide) (br_f (by decide) (br_t rfl ?_)))))))
    rw [ek, ex, zq_ru5 (by omega)] at ok
    refine zx_shTr hb hi hp ex (hr i (by omega)).2 (hr i (by omega)).1 (hc p hp).1 (hc p hp).2 (fun z => ⟨rfl, ?_⟩) (fun z => ⟨rfl, ?_⟩)
    · exact ok _ _ _ (by rw [if_pos (by omega)]) zx_upd2.1 zx_upd2.2.1 zx_upd2.2.2
    · exact ok _ _ _ (by rw [if_neg (by omega)]) zx_upd2.1 zx_upd2.2.1 zx_upd2.2.2
  · refine nm_r ek (br_f (by decide) (br_f (by decide) (br_f (by decide) (br_f (by decide) (br_f (by decide) (br_f (by decide) (br_f (by decide) (br_t rfl ⟨vp_in_nI hi (by omega), vp_in_nI hi (by omega), ?_⟩))))))))
    rw [ek, ex, zq_ru6 (by omega)] at ok no
    refine zx_spec h6 hb hi h3 e0 e1 e2 (br_f (by decide) ⟨vp_in_nI hi (by omega), ?_⟩)
    dsimp only
    rw [ex]
    unfold wpX_sameCount
    dsimp only
    refine zx_elc (by omega) (zx_elc (by omega) ?_)
    have u := @zx_upd2 sz (b + i * 2) (nI (zq_sp (Y i) (Z i) a0 a1 a2).1) (nI (zq_sp (Y i) (Z i) a0 a1 a2).2)
    rw [u.2.1, u.2.2, u.1 _ (by omega) (by omega), u.1 _ (by omega) (by omega), (hc p hp).1, (hc p hp).2, pk_mul, pk_mul]
    have g := hg p hp
    have v := hv _ _ h3
    have g1 : R p * C p ≤ 6 * 6 := Nat.mul_le_mul g.1 g.2
    have g2 : (zq_sp (Y i) (Z i) a0 a1 a2).1 * (zq_sp (Y i) (Z i) a0 a1 a2).2 ≤ 6 * 6 := Nat.mul_le_mul v.1 v.2
    refine pk_eq _ _ (fun z => br_f (by decide) ?_) (fun z => br_t rfl ?_) rfl rfl (by omega) (by omega)
    · exact ok _ _ _ (if_pos z) u.1 u.2.1 u.2.2
    · exact no _ (if_neg z) u.1
  · refine nm_r ek (br_f (by decide) (br_t (by decide) ?_))
    rw [ek, ex, zq_ru7 (by omega)] at ok
    refine zx_shSu hb hi hp ex (hr p (by omega)).2 (hr p (by omega)).1 (hc p hp).1 (hc p hp).2 ⟨rfl, ?_⟩
    exact ok _ _ _ rfl zx_upd2.1 zx_upd2.2.1 zx_upd2.2.2
end
end
section
/-! arguments: both sides -/
theorem zq_ckl {x : Int32} {c : Nat} {A B : Prop} (hc : c < 2 ^ 31) (ok : ∀ j, j < c → x = nI j → A) (no : ¬ (∃ j, j < c ∧ x = nI j) → B) : (x < 0 → B) ∧ (¬ x < 0 → ((x < nI c → A) ∧ (¬ x < nI c → B))) := by
  refine br_c (fun h => no ?_) (fun h => br_c (fun h1 => ?_) (fun h1 => no ?_))
  · intro ⟨j, hj, e⟩
    rw [e] at h
    exact nI_pos (by omega) h
  · obtain ⟨j, hj, rfl⟩ := nI_of h
    exact ok j ((nI_ltI hj hc).mp h1) rfl
  · intro ⟨j, hj, e⟩
    rw [e] at h1
    exact h1 (nI_lt hj hc)
theorem zq_cke {x : Int32} {c : Nat} {A B : Prop} (hc : c < 2 ^ 31) (ok : ∀ j, j < c → x = nI j → A) (no : ¬ (∃ j, j < c ∧ x = nI j) → B) : (x < 0 → B) ∧ (¬ x < 0 → ((nI c ≤ x → B) ∧ (¬ nI c ≤ x → A))) := by
  refine br_c (fun h => no ?_) (fun h => br_c (fun h1 => no ?_) (fun h1 => ?_))
  · intro ⟨j, hj, e⟩
    rw [e] at h
    exact nI_pos (by omega) h
  · intro ⟨j, hj, e⟩
    rw [e] at h1
    exact nI_ge hj hc h1
  · obtain ⟨j, hj, rfl⟩ := nI_of h
    have h2 : ¬ c ≤ j := fun z => h1 ((nI_leI hc hj).mpr z)
    exact ok j (by omega) rfl
theorem zq_ge1 {x : Int32} (h : ¬ x < 1) : ∃ d, d + 1 < 2 ^ 31 ∧ x = nI (d + 1) := by
  have h0 : ¬ x < 0 := fun z => h (Int32.lt_of_lt_of_le z (by decide))
  obtain ⟨j, hj, rfl⟩ := nI_of h0
  have h1 : ¬ j < 1 := fun z => h ((nI_ltI (b := 1) hj (by omega)).mpr z)
  refine ⟨j - 1, by omega, ?_⟩
  rw [Nat.sub_add_cancel (by omega)]
theorem zq_szl {x : Int32} {D : Nat} {A B : Prop} (hD : D < 2 ^ 31) (ok : ∀ d, d < D → x = nI (d + 1) → A) (no : ¬ (∃ d, d < D ∧ x = nI (d + 1)) → B) : (x < 1 → B) ∧ (¬ x < 1 → ((nI D < x → B) ∧ (¬ nI D < x → A))) := by
  refine br_c (fun h => no ?_) (fun h => br_c (fun h1 => no ?_) (fun h1 => ?_))
  · intro ⟨d, hd, e⟩
    rw [e] at h
    exact nI_nlt (b := 1) (by omega) (by omega) h
  · intro ⟨d, hd, e⟩
    rw [e] at h1
    exact nI_nlt (by omega) (by omega) h1
  · obtain ⟨d, hd, rfl⟩ := zq_ge1 h
    have h2 : ¬ D < d + 1 := fun z => h1 ((nI_ltI hD hd).mpr z)
    exact ok d (by omega) rfl
theorem zq_sze {x : Int32} {D : Nat} {A B : Prop} (hD : D < 2 ^ 31) (ok : ∀ d, d < D → x = nI (d + 1) → A) (no : ¬ (∃ d, d < D ∧ x = nI (d + 1)) → B) : (x < 1 → B) ∧ (¬ x < 1 → ((x ≤ nI D → A) ∧ (¬ x ≤ nI D → B))) := by
  refine br_c (fun h => no ?_) (fun h => br_c (fun h1 => ?_) (fun h1 => no ?_))
  · intro ⟨d, hd, e⟩
    rw [e] at h
    exact nI_nlt (b := 1) (by omega) (by omega) h
  · obtain ⟨d, hd, rfl⟩ := zq_ge1 h
    have h2 : d + 1 ≤ D := (nI_leI hd hD).mp h1
    exact ok d (by omega) rfl
  · intro ⟨d, hd, e⟩
    rw [e] at h1
    exact h1 (nI_le (by omega) hD)
/-- a valid new node -/
def zq_vn (D i : Nat) (rk : Nat → Nat) (k x y z : Int32) : Prop :=
  (k = 1 ∧ zq_spec D x y) ∨
  (∃ p q, p < i ∧ q < i ∧ x = nI p ∧ y = nI q ∧ (k = 2 ∨ k = 3)) ∨
  (∃ p q, p < i ∧ q < i ∧ x = nI p ∧ y = nI q ∧ k = 4 ∧ rk p = 2 ∧ rk q = 2) ∨
  (∃ p, p < i ∧ x = nI p ∧ k = 5) ∨
  (∃ p, p < i ∧ x = nI p ∧ k = 6 ∧ zq_spec D y z) ∨
  (∃ p s, p < i ∧ x = nI p ∧ k = 7 ∧ y = nI s ∧ s < rk p)
section
variable {D i : Nat} {rk : Nat → Nat} {k x y z : Int32}
theorem zq_vnk (h : zq_vn D i rk k x y z) : k = 1 ∨ k = 2 ∨ k = 3 ∨ k = 4 ∨ k = 5 ∨ k = 6 ∨ k = 7 := by
  rcases h with ⟨h, _⟩ | ⟨_, _, _, _, _, _, h⟩ | ⟨_, _, _, _, _, _, h, _⟩ | ⟨_, _, _, h⟩ | ⟨_, _, _, h, _⟩ | ⟨_, _, _, _, h, _⟩
  · exact Or.inl h
  · rcases h with h | h
    · exact Or.inr (Or.inl h)
    · exact Or.inr (Or.inr (Or.inl h))
  · exact Or.inr (Or.inr (Or.inr (Or.inl h)))
  · exact Or.inr (Or.inr (Or.inr (Or.inr (Or.inl h))))
  · exact Or.inr (Or.inr (Or.inr (Or.inr (Or.inr (Or.inl h)))))
  · exact Or.inr (Or.inr (Or.inr (Or.inr (Or.inr (Or.inr h)))))
theorem zq_vn1 (h : zq_vn D i rk 1 x y z) : zq_spec D x y := by
  rcases h with ⟨_, h⟩ | ⟨_, _, _, _, _, _, h⟩ | ⟨_, _, _, _, _, _, h, _⟩ | ⟨_, _, _, h⟩ | ⟨_, _, _, h, _⟩ | ⟨_, _, _, _, h, _⟩
  · exact h
  · exact absurd h (by decide)
  · exact absurd h (by decide)
  · exact absurd h (by decide)
  · exact absurd h (by decide)
  · exact absurd h (by decide)
theorem zq_vn2 (hk : k = 2 ∨ k = 3) (h : zq_vn D i rk k x y z) : (∃ j, j < i ∧ x = nI j) ∧ (∃ j, j < i ∧ y = nI j) := by
  have hk' : k ≠ 1 ∧ k ≠ 4 ∧ k ≠ 5 ∧ k ≠ 6 ∧ k ≠ 7 := by rcases hk with rfl | rfl <;> decide
  rcases h with ⟨h, _⟩ | ⟨p, q, hp, hq, ex, ey, h⟩ | ⟨_, _, _, _, _, _, h, _⟩ | ⟨_, _, _, h⟩ | ⟨_, _, _, h, _⟩ | ⟨_, _, _, _, h, _⟩
  · exact absurd h hk'.1
  · exact ⟨⟨p, hp, ex⟩, ⟨q, hq, ey⟩⟩
  · exact absurd h hk'.2.1
  · exact absurd h hk'.2.2.1
  · exact absurd h hk'.2.2.2.1
  · exact absurd h hk'.2.2.2.2
theorem zq_vn4 (h : zq_vn D i rk 4 x y z) : ∃ p q, p < i ∧ q < i ∧ x = nI p ∧ y = nI q ∧ rk p = 2 ∧ rk q = 2 := by
  rcases h with ⟨h, _⟩ | ⟨_, _, _, _, _, _, h⟩ | ⟨p, q, hp, hq, ex, ey, _, h⟩ | ⟨_, _, _, h⟩ | ⟨_, _, _, h, _⟩ | ⟨_, _, _, _, h, _⟩
  · exact absurd h (by decide)
  · exact absurd h (by decide)
  · exact ⟨p, q, hp, hq, ex, ey, h⟩
  · exact absurd h (by decide)
  · exact absurd h (by decide)
  · exact absurd h (by decide)
theorem zq_vn5 (h : zq_vn D i rk 5 x y z) : ∃ j, j < i ∧ x = nI j := by
  rcases h with ⟨h, _⟩ | ⟨_, _, _, _, _, _, h⟩ | ⟨_, _, _, _, _, _, h, _⟩ | ⟨p, hp, ex, _⟩ | ⟨_, _, _, h, _⟩ | ⟨_, _, _, _, h, _⟩
  · exact absurd h (by decide)
  · exact absurd h (by decide)
  · exact absurd h (by decide)
  · exact ⟨p, hp, ex⟩
  · exact absurd h (by decide)
  · exact absurd h (by decide)
theorem zq_vn6 (h : zq_vn D i rk 6 x y z) : (∃ j, j < i ∧ x = nI j) ∧ zq_spec D y z := by
  rcases h with ⟨h, _⟩ | ⟨_, _, _, _, _, _, h⟩ | ⟨_, _, _, _, _, _, h, _⟩ | ⟨_, _, _, h⟩ | ⟨p, hp, ex, _, h⟩ | ⟨_, _, _, _, h, _⟩
  · exact absurd h (by decide)
  · exact absurd h (by decide)
  · exact absurd h (by decide)
  · exact absurd h (by decide)
  · exact ⟨⟨p, hp, ex⟩, h⟩
  · exact absurd h (by decide)
theorem zq_vn7 (h : zq_vn D i rk 7 x y z) : ∃ p s, p < i ∧ x = nI p ∧ y = nI s ∧ s < rk p := by
  rcases h with ⟨h, _⟩ | ⟨_, _, _, _, _, _, h⟩ | ⟨_, _, _, _, _, _, h, _⟩ | ⟨_, _, _, h⟩ | ⟨_, _, _, h, _⟩ | ⟨p, s, hp, ex, _, ey, hs⟩
  · exact absurd h (by decide)
  · exact absurd h (by decide)
  · exact absurd h (by decide)
  · exact absurd h (by decide)
  · exact absurd h (by decide)
  · exact ⟨p, s, hp, ex, ey, hs⟩
end
/-! the class's checks -/
section
variable {mx ins cnt st cp : Int32} {K X Y Z rs dt sz tr bd el : Nat → Int32}
theorem zx_isn {post : Int32 → Prop} {c : Nat} {x : Int32} (hc : c ≤ 16) (ok : ∀ j, j < c → x = nI j → post 1) (no : ¬ (∃ j, j < c ∧ x = nI j) → post 0) : wpX_isNode post (mx, ins, nI c, st, cp, K, X, Y, Z, rs, dt, sz, tr, bd, el) x := by
  unfold wpX_isNode
  dsimp only
  exact zq_cke (by omega) ok no
theorem zx_isz {post : Int32 → Prop} {D : Nat} {x : Int32} (hD : D ≤ 6) (ok : ∀ d, d < D → x = nI (d + 1) → post 1) (no : ¬ (∃ d, d < D ∧ x = nI (d + 1)) → post 0) : wpX_isSize post (nI D, ins, cnt, st, cp, K, X, Y, Z, rs, dt, sz, tr, bd, el) x := by
  unfold wpX_isSize
  dsimp only
  exact zq_szl (by omega) ok no
theorem zx_vc {post : Int32 → Prop} {D : Nat} {x : Int32} (hD : D ≤ 6) (ok : zq_code D x → post 1) (no : ¬ zq_code D x → post 0) : wpX_validCode post (nI D, ins, cnt, st, cp, K, X, Y, Z, rs, dt, sz, tr, bd, el) x := by
  unfold wpX_validCode
  dsimp only
  refine zx_isz hD (fun d hd e => br_f (by decide) (ok (Or.inl ⟨d + 1, by omega, by omega, e⟩))) (fun h => br_t rfl ?_)
  have hd : ∀ d, ¬ (1 ≤ d ∧ d ≤ D ∧ x = nI d) := fun d z => h ⟨d - 1, by omega, by rw [Nat.sub_add_cancel z.1]; exact z.2.2⟩
  refine br_c (fun h0 => no ?_) (fun h0 => br_c (fun h3 => no ?_) (fun h3 => ok ?_))
  · rintro (⟨d, z⟩ | rfl | rfl | rfl)
    · exact hd d z
    · exact absurd h0 (by decide)
    · exact absurd h0 (by decide)
    · exact absurd h0 (by decide)
  · rintro (⟨d, z⟩ | rfl | rfl | rfl)
    · exact hd d z
    · exact absurd h3 (by decide)
    · exact absurd h3 (by decide)
    · exact absurd h3 (by decide)
  · exact Or.inr (zq_neg (Int32.not_le.mp h0) (Int32.not_lt.mp h3))
theorem zx_vs {post : Int32 → Prop} {D : Nat} {p q : Int32} (hD : D ≤ 6) (ok : zq_spec D p q → post 1) (no : ¬ zq_spec D p q → post 0) : wpX_validSpec post (nI D, ins, cnt, st, cp, K, X, Y, Z, rs, dt, sz, tr, bd, el) p q := by
  unfold wpX_validSpec
  dsimp only
  refine br_c (fun hp => br_c (fun hq => ok (Or.inl ⟨hp, hq⟩)) (fun hq => no ?_)) (fun hp => zx_vc hD (fun hc => br_f (by decide) ?_) (fun hc => br_t rfl (no ?_)))
  · rintro (⟨_, h⟩ | ⟨_, h⟩ | ⟨h, _⟩)
    · exact hq h
    · exact hq h
    · exact zq_code_ne hD h hp
  · refine br_c (fun hq => ok (Or.inr (Or.inl ⟨hc, hq⟩))) (fun hq => zx_vc hD (fun hc' => br_f (by decide) (ok (Or.inr (Or.inr ⟨hc, hc'⟩)))) (fun hc' => br_t rfl (no ?_)))
    rintro (⟨h, _⟩ | ⟨_, h⟩ | ⟨_, h⟩)
    · exact hp h
    · exact hq h
    · exact hc' h
  · rintro (⟨h, _⟩ | ⟨h, _⟩ | ⟨h, _⟩)
    · exact hp h
    · exact hc h
    · exact hc h
theorem zx_hd {post : Int32 → Prop} {c : Nat} {rk : Nat → Nat} {x y : Int32} (hc : c ≤ 16) (hr : ∀ j, j < c → rs j = nI (rk j) ∧ rk j ≤ 2) (ok : ∀ p s, p < c → x = nI p → y = nI s → s < rk p → post 1) (no : ¬ (∃ p s, p < c ∧ x = nI p ∧ y = nI s ∧ s < rk p) → post 0) : wpX_hasDim post (mx, ins, nI c, st, cp, K, X, Y, Z, rs, dt, sz, tr, bd, el) x y := by
  unfold wpX_hasDim
  dsimp only
  refine zx_isn hc (fun j hj e => br_f (by decide) ?_) (fun h => br_t rfl (no (fun ⟨p, _, hp, e, _⟩ => h ⟨p, hp, e⟩)))
  subst e
  rw [nI_clamp (by omega), (hr j hj).1]
  have hj2 := (hr j hj).2
  have inj : ∀ p, p < c → nI j = nI p → j = p := fun p hp e => (nI_eq (by omega) (by omega)).mp e
  refine br_c (fun h => no ?_) (fun h => ⟨vp_in_nI (by omega) (by omega), br_c (fun h1 => no ?_) (fun h1 => ?_)⟩)
  · rintro ⟨p, s, hp, e1, e2, hs⟩
    rw [e2] at h
    have := inj p hp e1
    subst this
    exact nI_pos (by omega) h
  · rintro ⟨p, s, hp, e1, e2, hs⟩
    rw [e2] at h1
    have := inj p hp e1
    subst this
    exact nI_ge hs (by omega) h1
  · obtain ⟨s, hs, rfl⟩ := nI_of h
    have h2 : ¬ rk j ≤ s := fun z => h1 ((nI_leI (by omega) hs).mpr z)
    exact ok j s hj rfl rfl (by omega)
theorem zx_vn {post : Int32 → Prop} {D c : Nat} {rk : Nat → Nat} {k x y z : Int32} (hD : D ≤ 6) (hc : c ≤ 16) (hr : ∀ j, j < c → rs j = nI (rk j) ∧ rk j ≤ 2) (ok : zq_vn D c rk k x y z → post 1) (no : ¬ zq_vn D c rk k x y z → post 0) : wpX_validNode post (nI D, ins, nI c, st, cp, K, X, Y, Z, rs, dt, sz, tr, bd, el) k x y z := by
  unfold wpX_validNode
  dsimp only
  have m51 : (k = 2 ∨ k = 3) → wX_validNode_51 post x y (nI D) ins (nI c) st cp K X Y Z rs dt sz tr bd el := by
    intro hk
    unfold wX_validNode_51
    refine zx_isn hc (fun p hp ex => br_f (by decide) (zx_isn hc (fun q hq ey => br_f (by decide) (ok (Or.inr (Or.inl ⟨p, q, hp, hq, ex, ey, hk⟩)))) (fun h => br_t rfl (no (fun v => h (zq_vn2 hk v).2))))) (fun h => br_t rfl (no (fun v => h (zq_vn2 hk v).1)))
  refine br_c (fun h => no ?_) (fun _ => br_c (fun h => no ?_) (fun _ => br_c (fun e => ?_) (fun _ => br_c (fun e => m51 (Or.inl e)) (fun _ => br_c (fun e => m51 (Or.inr e)) (fun _ => br_c (fun e => ?_) (fun _ => br_c (fun e => ?_) (fun _ => br_c (fun e => ?_) (fun _ => br_c (fun e => ?_) (fun _ => trivial)))))))))
  · intro v
    rcases zq_vnk v with rfl | rfl | rfl | rfl | rfl | rfl | rfl <;> exact absurd h (by decide)
  · intro v
    rcases zq_vnk v with rfl | rfl | rfl | rfl | rfl | rfl | rfl <;> exact absurd h (by decide)
  · subst e
    exact zx_vs hD (fun h => ⟨rfl, ok (Or.inl ⟨rfl, h⟩)⟩) (fun h => ⟨rfl, no (fun v => h (zq_vn1 v))⟩)
  · subst e
    refine zx_isn hc (fun p hp ex => br_f (by decide) (zx_isn hc (fun q hq ey => br_f (by decide) ?_) (fun h => br_t rfl (no (fun v => ?_))))) (fun h => br_t rfl (no (fun v => ?_)))
    · subst ex ey
      rw [nI_clamp (by omega), nI_clamp (by omega), (hr p hp).1, (hr q hq).1]
      have hp2 := (hr p hp).2
      have hq2 := (hr q hq).2
      refine ⟨vp_in_nI (by omega) (by omega), pk_eq (rk p) 2 (fun e1 => ⟨vp_in_nI (by omega) (by omega), pk_eq (rk q) 2 (fun e2 => ?_) (fun e2 => no (fun v => ?_))⟩) (fun e1 => no (fun v => ?_))⟩
      · exact ok (Or.inr (Or.inr (Or.inl ⟨p, q, hp, hq, rfl, rfl, rfl, e1, e2⟩)))
      · obtain ⟨p', q', hp', hq', ep, eq, r1, r2⟩ := zq_vn4 v
        have := (nI_eq (by omega) (by omega)).mp eq
        subst this
        exact e2 r2
      · obtain ⟨p', q', hp', hq', ep, eq, r1, r2⟩ := zq_vn4 v
        have := (nI_eq (by omega) (by omega)).mp ep
        subst this
        exact e1 r1
    · obtain ⟨p', q', hp', hq', ep, eq, _⟩ := zq_vn4 v
      exact h ⟨q', hq', eq⟩
    · obtain ⟨p', q', hp', hq', ep, eq, _⟩ := zq_vn4 v
      exact h ⟨p', hp', ep⟩
  · subst e
    exact zx_isn hc (fun p hp ex => ⟨rfl, ok (Or.inr (Or.inr (Or.inr (Or.inl ⟨p, hp, ex, rfl⟩))))⟩) (fun h => ⟨rfl, no (fun v => h (zq_vn5 v))⟩)
  · subst e
    refine zx_isn hc (fun p hp ex => br_f (by decide) (zx_vs hD (fun h => br_f (by decide) (ok (Or.inr (Or.inr (Or.inr (Or.inr (Or.inl ⟨p, hp, ex, rfl, h⟩))))))) (fun h => br_t rfl (no (fun v => h (zq_vn6 v).2))))) (fun h => br_t rfl (no (fun v => h (zq_vn6 v).1)))
  · subst e
    exact zx_hd hc hr (fun p s hp ex ey hs => ⟨rfl, ok (Or.inr (Or.inr (Or.inr (Or.inr (Or.inr ⟨p, s, hp, ex, rfl, ey, hs⟩)))))⟩) (fun h => ⟨rfl, no (fun v => h (zq_vn7 v))⟩)
theorem zx_srk {post : Int32 → Prop} {D : Nat} {p q : Int32} (hD : D ≤ 6) (hs : zq_spec D p q) (hp : post (nI (zq_sr p q))) : wpX_specRank post p q := by
  unfold wpX_specRank
  unfold zq_sr at hp
  rcases hs with ⟨rfl, rfl⟩ | ⟨h, rfl⟩ | ⟨h, h'⟩
  · rw [if_pos rfl] at hp
    exact br_t rfl (br_t rfl hp)
  · rw [if_neg (zq_code_ne hD h), if_pos rfl] at hp
    exact br_t rfl (br_f (zq_code_ne hD h) hp)
  · rw [if_neg (zq_code_ne hD h), if_neg (zq_code_ne hD h')] at hp
    exact br_f (zq_code_ne hD h') hp
theorem zx_rbk {post : Int32 → Prop} {D c : Nat} {rk : Nat → Nat} {k x y z : Int32} (hD : D ≤ 6) (hc : c ≤ 16) (hr : ∀ j, j < c → rs j = nI (rk j) ∧ rk j ≤ 2) (hv : zq_vn D c rk k x y z) (ok : ∀ r, zq_nd D c (zq_ex c r rk) k x y z → post (nI r)) : wpX_rankByKind post (mx, ins, cnt, st, cp, K, X, Y, Z, rs, dt, sz, tr, bd, el) k x y z := by
  unfold wpX_rankByKind
  dsimp only
  rcases hv with ⟨rfl, h2⟩ | ⟨p, q, hp, hq, rfl, rfl, hk⟩ | ⟨p, q, hp, hq, rfl, rfl, rfl, h4, h5⟩ | ⟨p, hp, rfl, rfl⟩ | ⟨p, hp, rfl, rfl, h4⟩ | ⟨p, s, hp, rfl, rfl, rfl, hs⟩
  · refine br_f (by decide) (br_f (by decide) (br_t rfl ?_))
    exact zx_srk hD h2 (ok _ (Or.inl ⟨rfl, h2, zq_ex_s⟩))
  · have main : wX_rankByKind_50 post (nI p) (nI q) mx ins cnt st cp K X Y Z rs dt sz tr bd el := by
      unfold wX_rankByKind_50
      rw [nI_clamp (by omega), nI_clamp (by omega), (hr p hp).1, (hr q hq).1]
      have hp2 := (hr p hp).2
      have hq2 := (hr q hq).2
      have ok' : ∀ r, r = max (rk p) (rk q) → post (nI r) := fun r e => ok r (Or.inr (Or.inl ⟨p, q, hp, hq, rfl, rfl, hk, by rw [zq_ex_s, zq_ex_n hp, zq_ex_n hq]; exact e⟩))
      exact ⟨vp_in_nI (by omega) (by omega), vp_in_nI (by omega) (by omega), pk_le (rk p) (rk q) (fun e => ⟨vp_in_nI (by omega) (by omega), ok' _ (by omega)⟩) (fun e => ⟨vp_in_nI (by omega) (by omega), ok' _ (by omega)⟩)⟩
    rcases hk with rfl | rfl
    · exact br_f (by decide) (br_f (by decide) (br_f (by decide) (br_t rfl main)))
    · exact br_f (by decide) (br_f (by decide) (br_f (by decide) (br_f (by decide) (br_t rfl main))))
  · refine br_f (by decide) (br_f (by decide) (br_f (by decide) (br_f (by decide) (br_f (by decide) (br_t rfl ⟨vp_in_nI (by omega) (by omega), ?_⟩)))))
    rw [nI_clamp (by omega), (hr p hp).1]
    exact ok _ (Or.inr (Or.inr (Or.inl ⟨p, q, hp, hq, rfl, rfl, rfl, by rw [zq_ex_n hp]; exact h4, by rw [zq_ex_n hq]; exact h5, by rw [zq_ex_s]; exact h4⟩)))
  · refine br_f (by decide) (br_f (by decide) (br_f (by decide) (br_f (by decide) (br_f (by decide) (br_f (by decide) (br_t rfl ⟨vp_in_nI (by omega) (by omega), ?_⟩))))))
    rw [nI_clamp (by omega), (hr p hp).1]
    exact ok _ (Or.inr (Or.inr (Or.inr (Or.inl ⟨p, hp, rfl, rfl, by rw [zq_ex_s, zq_ex_n hp]⟩))))
  · refine br_f (by decide) (br_f (by decide) (br_f (by decide) (br_f (by decide) (br_f (by decide) (br_f (by decide) (br_f (by decide) (br_t rfl ?_)))))))
    exact zx_srk hD h4 (ok _ (Or.inr (Or.inr (Or.inr (Or.inr (Or.inl ⟨p, hp, rfl, rfl, h4, zq_ex_s⟩))))))
  · refine br_f (by decide) (br_f (by decide) (br_f (by decide) (br_f (by decide) (br_f (by decide) (br_f (by decide) (br_f (by decide) (br_f (by decide) (br_t rfl ⟨vp_in_nI (by omega) (by omega), ?_⟩))))))))
    rw [nI_clamp (by omega), (hr p hp).1]
    have e : nI (rk p) - 1 = nI (rk p - 1) := pk_sub (b := 1) (by omega)
    rw [e]
    exact ok _ (Or.inr (Or.inr (Or.inr (Or.inr (Or.inr ⟨p, s, hp, rfl, rfl, rfl, by rw [zq_ex_n hp]; exact hs, by rw [zq_ex_s, zq_ex_n hp]; omega⟩)))))
end
end
section
/-! the class: addNode and the constructor -/
section
variable {mx ins cnt st cp : Int32} {K X Y Z rs dt sz tr bd el : Nat → Int32}
theorem zx_fd {post : SX → Prop} {c : Nat} (hc : c < 16) : ∀ d e fu : Nat, ∀ dt0 : Nat → Int32, e + d = 36 → d < fu → dt = zq_fo (fun _ e => nI (e + 1)) (c * 36) dt0 e → post (mx, ins, cnt, st, cp, K, X, Y, Z, rs, zq_fo (fun _ e => nI (e + 1)) (c * 36) dt0 36, sz, tr, bd, el) → wX_fillData_2 post (nI c) mx ins cnt st cp fu (nI e) K X Y Z rs dt sz tr bd el := by
  intro d
  induction d generalizing dt with
  | zero =>
    intro e fu dt0 he hf ed hp
    obtain ⟨f, rfl⟩ : ∃ f, fu = f + 1 := ⟨fu - 1, by omega⟩
    have h36 : e = 36 := by omega
    subst h36
    rw [wX_fillData_2]
    rw [ed]
    exact br_t (Int32.le_refl _) hp
  | succ d ih =>
    intro e fu dt0 he hf ed hp
    obtain ⟨f, rfl⟩ : ∃ f, fu = f + 1 := ⟨fu - 1, by omega⟩
    rw [wX_fillData_2]
    have ei : nI c * 36 + nI e = nI (c * 36 + e) := by rw [zq_m36, nI_add]
    refine br_f (nI_ge (b := 36) (by omega) (by decide)) ?_
    rw [ei, nI_clamp (by omega)]
    refine ⟨vp_in_nI (by omega) (by omega), nm_e (nm_r (nI_1 e) ?_)⟩
    refine ih (e + 1) f dt0 (by omega) (by omega) ?_ hp
    rw [ed, nI_1]
    rfl
theorem zx_fillData {post : SX → Prop} {c : Nat} (hc : c < 16) (hp : post (mx, ins, cnt, st, cp, K, X, Y, Z, rs, zq_fo (fun _ e => nI (e + 1)) (c * 36) dt 36, sz, tr, bd, el)) : wpX_fillData post (mx, ins, cnt, st, cp, K, X, Y, Z, rs, dt, sz, tr, bd, el) (nI c) := by
  unfold wpX_fillData
  dsimp only
  exact ⟨37, zx_fd hc 36 0 37 dt rfl (by omega) rfl hp⟩
theorem zx_sua {post : SX → Prop} {D c N : Nat} {k x y z : Int32} {rk rk' : Nat → Nat} (h2 : 2 ≤ D) (h6 : D ≤ 6) (hN : N = D * D * D) (hc : c < 16)
    (hn : ∀ i, i < c → zq_nd D i rk (K i) (X i) (Y i) (Z i)) (hn' : zq_nd D c rk' k x y z) (er : ∀ j, j < c → rk' j = rk j) (hr : ∀ j, j ≤ c → rs j = nI (rk' j) ∧ rk' j ≤ 2)
    (hp : ∀ sz' tr', (∀ n, n < N → zq_tb D (c + 1) (upd K c k) (upd X c x) (upd Y c y) (upd Z c z) rk' sz' tr' n) → post (mx, nI N, cnt, st, cp, upd K c k, upd X c x, upd Y c y, upd Z c z, rs, dt, sz', tr', bd, el)) :
    ∀ d m fu : Nat, ∀ sz tr : Nat → Int32, m + d = N → d < fu → (∀ n, n < m → zq_tb D (c + 1) (upd K c k) (upd X c x) (upd Y c y) (upd Z c z) rk' sz tr n) → (∀ n, m ≤ n → n < N → zq_tb D c K X Y Z rk sz tr n) →
    wX_shapeUnderAll_2 post (nI c) fu (nI m) mx (nI N) cnt st cp (upd K c k) (upd X c x) (upd Y c y) (upd Z c z) rs dt sz tr bd el := by
  have hN2 : N ≤ 216 := by rw [hN]; exact zq_216 h6
  intro d
  induction d with
  | zero =>
    intro m fu sz tr hm hf h1 h3
    obtain ⟨f, rfl⟩ : ∃ f, fu = f + 1 := ⟨fu - 1, by omega⟩
    have e : m = N := by omega
    subst e
    rw [wX_shapeUnderAll_2]
    exact br_t (Int32.le_refl _) (hp sz tr h1)
  | succ d ih =>
    intro m fu sz tr hm hf h1 h3
    obtain ⟨f, rfl⟩ : ∃ f, fu = f + 1 := ⟨fu - 1, by omega⟩
    rw [wX_shapeUnderAll_2]
    refine br_f (nI_ge (by omega) (by omega)) ⟨vp_in_nI (by omega) (by omega), ?_⟩
    rw [nI_clamp (by omega)]
    have hm' := h3 m (by omega) (by omega)
    refine br_c (fun ht => ?_) (fun ht => ?_)
    · obtain ⟨t1, t2, t3, t, R, C, t4, t5, t6⟩ := hm'
      have etc : t = c := by
        rcases t6 with ⟨e, _⟩ | ⟨_, e⟩
        · exact e
        · rw [e] at ht
          exact absurd ht (zq_m1 (by have := t4.1; omega))
      subst etc
      have hd := zq_dec h2 h6 (show m < D * D * D by omega)
      have ha : 1 ≤ m / (D * D) + 1 ∧ m / (D * D) + 1 ≤ D := ⟨Nat.succ_le_succ (Nat.zero_le _), hd.1⟩
      have hb : 1 ≤ m / D % D + 1 ∧ m / D % D + 1 ≤ D := ⟨Nat.succ_le_succ (Nat.zero_le _), hd.2.1⟩
      have hcc : 1 ≤ m % D + 1 ∧ m % D + 1 ≤ D := ⟨Nat.succ_le_succ (Nat.zero_le _), hd.2.2.1⟩
      have hgd : ∀ j, j < t → zq_good D (rk' j) (R j) (C j) := fun j hj => by rw [er j hj]; exact (t4.2.1 j hj).1
      rw [zq_m35]
      refine zx_shape (K := upd K t k) (X := upd X t x) (Y := upd Y t y) (Z := upd Z t z) (rk := rk') (R := R) (C := C) h6 (by omega) hc (by rw [pk_us, pk_us, pk_us, pk_us]; exact hn') hr t1 t2 t3 t5 (fun j hj => ?_) (fun p q hs => ?_) ?_ ?_
      · have g := hgd j hj
        unfold zq_good at g
        omega
      · have g := zq_spec_good h2 h6 hs ha hb hcc
        unfold zq_good at g
        omega
      · rw [pk_us, pk_us, pk_us, pk_us]
        intro r s sz' e fr e1 e2
        refine br_f (by decide) (nm_r (nI_1 m) ?_)
        refine ih (m + 1) f sz' tr (by omega) (by omega) (fun n hnm => ?_) (fun n hnm hnN => ?_)
        · by_cases hnm' : n = m
          · subst hnm'
            exact zq_tb_new hc hn hn' er t1 t2 t3 t4 t5 fr (Or.inl ⟨r, s, e, zq_ru_good h2 h6 (by omega) ha hb hcc hn' hgd e, e1, e2, ht⟩)
          · exact zq_tb_fr (by omega) (h1 n (by omega)) (fun j hj => fr _ (by omega) (by omega)) rfl
        · exact zq_tb_fr (by omega) (h3 n (by omega) hnN) (fun j hj => fr _ (by omega) (by omega)) rfl
      · rw [pk_us, pk_us, pk_us, pk_us]
        intro sz' e fr
        refine br_t rfl ⟨vp_in_nI (by omega) (by omega), nm_e (nm_r (nI_1 m) ?_)⟩
        refine ih (m + 1) f sz' (upd tr m (nI t)) (by omega) (by omega) (fun n hnm => ?_) (fun n hnm hnN => ?_)
        · by_cases hnm' : n = m
          · subst hnm'
            exact zq_tb_new hc hn hn' er t1 t2 t3 t4 t5 fr (Or.inr ⟨e, pk_us⟩)
          · exact zq_tb_fr (by omega) (h1 n (by omega)) (fun j hj => fr _ (by omega) (by omega)) (pk_un hnm')
        · exact zq_tb_fr (by omega) (h3 n (by omega) hnN) (fun j hj => fr _ (by omega) (by omega)) (pk_un (by omega))
    · refine nm_r (nI_1 m) ?_
      refine ih (m + 1) f sz tr (by omega) (by omega) (fun n hnm => ?_) (fun n hnm hnN => h3 n (by omega) hnN)
      by_cases hnm' : n = m
      · subst hnm'
        exact zq_tb_old hc hn er hm' ht
      · exact h1 n (by omega)
theorem zx_add {post : Int32 → SX → Prop} {D c : Nat} {k x y z : Int32} {rk : Nat → Nat} (h2 : 2 ≤ D) (h6 : D ≤ 6) (hc : c ≤ 16)
    (hr : ∀ j, j < c → rs j = nI (rk j) ∧ rk j ≤ 2) (hn : ∀ i, i < c → zq_nd D i rk (K i) (X i) (Y i) (Z i)) (ht : ∀ n, n < D * D * D → zq_tb D c K X Y Z rk sz tr n)
    (full : c = 16 → post (-1) (nI D, nI (D * D * D), nI c, st, cp, K, X, Y, Z, rs, dt, sz, tr, bd, el)) (no : c < 16 → ¬ zq_vn D c rk k x y z → post (-1) (nI D, nI (D * D * D), nI c, st, cp, K, X, Y, Z, rs, dt, sz, tr, bd, el))
    (ok : c < 16 → zq_vn D c rk k x y z → ∀ r dt' sz' tr', zq_nd D c (zq_ex c r rk) k x y z → r ≤ 2 → dt' = (if k = 1 then zq_fo (fun _ e => nI (e + 1)) (c * 36) dt 36 else dt) →
      (∀ n, n < D * D * D → zq_tb D (c + 1) (upd K c k) (upd X c x) (upd Y c y) (upd Z c z) (zq_ex c r rk) sz' tr' n) →
      post (nI c) (nI D, nI (D * D * D), nI (c + 1), 0, 0, upd K c k, upd X c x, upd Y c y, upd Z c z, upd rs c (nI r), dt', sz', tr', bd, el)) :
    wpX_addNode post (nI D, nI (D * D * D), nI c, st, cp, K, X, Y, Z, rs, dt, sz, tr, bd, el) k x y z := by
  unfold wpX_addNode
  dsimp only
  refine pk_le 16 c (fun h => full (by omega)) (fun h => ?_)
  refine zx_vn h6 hc hr (fun hv => br_f (by decide) ?_) (fun hv => br_t rfl (no h hv))
  rw [nI_clamp (by omega)]
  refine ⟨vp_in_nI h (by omega), nm_e ⟨vp_in_nI h (by omega), nm_e ⟨vp_in_nI h (by omega), nm_e ⟨vp_in_nI h (by omega), nm_e ?_⟩⟩⟩⟩
  refine zx_rbk h6 hc hr hv (fun r hnd => ⟨vp_in_nI h (by omega), nm_e ?_⟩)
  have hr2 : ∀ j, j < c → zq_ex c r rk j ≤ 2 := fun j hj => by rw [zq_ex_n hj]; exact (hr j hj).2
  have r2 : r ≤ 2 := by
    have w := zq_nd_2 hnd hr2
    rw [zq_ex_s] at w
    exact w
  have tail : ∀ dt', dt' = (if k = 1 then zq_fo (fun _ e => nI (e + 1)) (c * 36) dt 36 else dt) → wX_addNode_89 post (nI c) (nI D) (nI (D * D * D)) (nI c) st cp (upd K c k) (upd X c x) (upd Y c y) (upd Z c z) (upd rs c (nI r)) dt' sz tr bd el := by
    intro dt' ed
    unfold wX_addNode_89
    refine nm_r (nI_1 c) ?_
    unfold wpX_shapeUnderAll
    dsimp only
    refine ⟨D * D * D + 1, ?_⟩
    refine zx_sua (rk := rk) (rk' := zq_ex c r rk) h2 h6 rfl h hn hnd (fun j hj => zq_ex_n hj) (fun j hj => ?_) (fun sz' tr' h' => ?_) (D * D * D) 0 (D * D * D + 1) sz tr (by omega) (by omega) (fun n hn0 => absurd hn0 (by omega)) (fun n _ hnN => ht n hnN)
    · by_cases hjc : j = c
      · subst hjc
        rw [pk_us, zq_ex_s]
        exact ⟨rfl, r2⟩
      · rw [pk_un hjc, zq_ex_n (by omega)]
        exact hr j (by omega)
    · exact ok h hv r dt' sz' tr' hnd r2 ed h'
  refine br_c (fun hk => ?_) (fun hk => ?_)
  · exact zx_fillData h (tail _ (if_pos hk).symm)
  · exact tail _ (if_neg hk).symm
/-! the constructor -/
theorem zx_iof {post : Int32 → Prop} {D a b c : Nat} (hp : post (nI ((a * D + b) * D + c))) : wpX_instantiationOf post (nI D, ins, cnt, st, cp, K, X, Y, Z, rs, dt, sz, tr, bd, el) (nI (a + 1)) (nI (b + 1)) (nI (c + 1)) := by
  unfold wpX_instantiationOf
  dsimp only
  rw [nI_pred, nI_pred, nI_pred, pk_mul, nI_add, pk_mul, nI_add]
  exact hp
end
/-- the first m stretches of an empty table -/
def zq_e0 (D m : Nat) (sz tr : Nat → Int32) : Prop := ∀ n, n < m → tr n = -1 ∧ sz (n * 35 + 32) = nI (n / (D * D) + 1) ∧ sz (n * 35 + 33) = nI (n / D % D + 1) ∧ sz (n * 35 + 34) = nI (n % D + 1)
section
variable {mx ins cnt st cp : Int32} {K X Y Z rs dt sz tr bd el : Nat → Int32}
theorem zx_f22 {post : SX → Prop} {J2 J12 : Int32 → (Nat → Int32) → (Nat → Int32) → (Nat → Int32) → (Nat → Int32) → (Nat → Int32) → (Nat → Int32) → (Nat → Int32) → (Nat → Int32) → (Nat → Int32) → (Nat → Int32) → Prop} {D a b : Nat} (h2 : 2 ≤ D) (h6 : D ≤ 6) (ha : a < D) (hb : b < D)
    (hJ : ∀ sz' tr', zq_e0 D ((a * D + (b + 1)) * D) sz' tr' → J12 (nI (b + 2)) K X Y Z rs dt sz' tr' bd el) :
    ∀ d c fu : Nat, ∀ sz tr : Nat → Int32, c + d = D → d < fu → zq_e0 D ((a * D + b) * D + c) sz tr → wX_fillInstantiations_22 post J2 J12 (nI (a + 1)) (nI (b + 1)) (nI D) ins cnt st cp fu (nI (c + 1)) K X Y Z rs dt sz tr bd el := by
  intro d
  induction d with
  | zero =>
    intro c fu sz tr hd hf hE
    obtain ⟨f, rfl⟩ : ∃ f, fu = f + 1 := ⟨fu - 1, by omega⟩
    have e : c = D := by omega
    subst e
    rw [wX_fillInstantiations_22]
    refine br_t (nI_lt (by omega) (by omega)) (nm_r (nI_1 (b + 1)) ?_)
    refine hJ sz tr ?_
    have e : (a * c + (b + 1)) * c = (a * c + b) * c + c := by rw [← Nat.add_assoc, Nat.add_mul, Nat.one_mul]
    rw [e]
    exact hE
  | succ d ih =>
    intro c fu sz tr hd hf hE
    obtain ⟨f, rfl⟩ : ∃ f, fu = f + 1 := ⟨fu - 1, by omega⟩
    rw [wX_fillInstantiations_22]
    refine br_f (nI_nlt (by omega) (by omega)) (zx_iof ?_)
    have en := zq_enc h2 h6 ha hb (show c < D by omega)
    have h216 := zq_216 h6
    generalize hm : (a * D + b) * D + c = m at en hE ⊢
    rw [zq_m35, zq_a32, nI_1, zq_a2, nI_clamp (by omega), nI_clamp (by omega), nI_clamp (by omega), nI_clamp (by omega)]
    refine ⟨vp_in_nI (by omega) (by omega), nm_e ⟨vp_in_nI (by omega) (by omega), nm_e ⟨vp_in_nI (by omega) (by omega), nm_e ⟨vp_in_nI (by omega) (by omega), nm_e (nm_r (nI_1 (c + 1)) ?_)⟩⟩⟩⟩
    refine ih (c + 1) f _ _ (by omega) (by omega) ?_
    rw [← Nat.add_assoc, hm]
    intro n hn
    by_cases hnm : n = m
    · subst hnm
      refine ⟨pk_us, ?_, ?_, ?_⟩
      · rw [pk_un (by omega), pk_un (by omega), pk_us, en.2.1]
      · rw [pk_un (by omega), pk_us, en.2.2.1]
      · rw [pk_us, en.2.2.2]
    · rw [pk_un hnm, pk_un (by omega), pk_un (by omega), pk_un (by omega), pk_un (by omega), pk_un (by omega), pk_un (by omega), pk_un (by omega), pk_un (by omega), pk_un (by omega)]
      exact hE n (by omega)
theorem zx_f12 {post : SX → Prop} {J2 : Int32 → (Nat → Int32) → (Nat → Int32) → (Nat → Int32) → (Nat → Int32) → (Nat → Int32) → (Nat → Int32) → (Nat → Int32) → (Nat → Int32) → (Nat → Int32) → (Nat → Int32) → Prop} {D a : Nat} (h2 : 2 ≤ D) (h6 : D ≤ 6) (ha : a < D)
    (hJ : ∀ sz' tr', zq_e0 D (((a + 1) * D) * D) sz' tr' → J2 (nI (a + 2)) K X Y Z rs dt sz' tr' bd el) :
    ∀ d b fu : Nat, ∀ sz tr : Nat → Int32, b + d = D → d < fu → zq_e0 D ((a * D + b) * D) sz tr → wX_fillInstantiations_12 post J2 (nI (a + 1)) (nI D) ins cnt st cp fu (nI (b + 1)) K X Y Z rs dt sz tr bd el := by
  intro d
  induction d with
  | zero =>
    intro b fu sz tr hd hf hE
    obtain ⟨f, rfl⟩ : ∃ f, fu = f + 1 := ⟨fu - 1, by omega⟩
    have e : b = D := by omega
    subst e
    rw [wX_fillInstantiations_12]
    refine br_t (nI_lt (by omega) (by omega)) (nm_r (nI_1 (a + 1)) ?_)
    refine hJ sz tr ?_
    rw [Nat.add_mul, Nat.one_mul]
    exact hE
  | succ d ih =>
    intro b fu sz tr hd hf hE
    obtain ⟨f, rfl⟩ : ∃ f, fu = f + 1 := ⟨fu - 1, by omega⟩
    rw [wX_fillInstantiations_12]
    refine br_f (nI_nlt (by omega) (by omega)) ⟨D + 1, ?_⟩
    exact zx_f22 h2 h6 ha (by omega) (fun sz' tr' h' => ih (b + 1) f sz' tr' (by omega) (by omega) h') D 0 (D + 1) sz tr (by omega) (by omega) hE
theorem zx_f2 {post : SX → Prop} {D : Nat} (h2 : 2 ≤ D) (h6 : D ≤ 6)
    (hp : ∀ sz' tr', zq_e0 D (D * D * D) sz' tr' → post (nI D, ins, cnt, st, cp, K, X, Y, Z, rs, dt, sz', tr', bd, el)) :
    ∀ d a fu : Nat, ∀ sz tr : Nat → Int32, a + d = D → d < fu → zq_e0 D ((a * D) * D) sz tr → wX_fillInstantiations_2 post (nI D) ins cnt st cp fu (nI (a + 1)) K X Y Z rs dt sz tr bd el := by
  intro d
  induction d with
  | zero =>
    intro a fu sz tr hd hf hE
    obtain ⟨f, rfl⟩ : ∃ f, fu = f + 1 := ⟨fu - 1, by omega⟩
    have e : a = D := by omega
    subst e
    rw [wX_fillInstantiations_2]
    exact br_t (nI_lt (by omega) (by omega)) (hp sz tr hE)
  | succ d ih =>
    intro a fu sz tr hd hf hE
    obtain ⟨f, rfl⟩ : ∃ f, fu = f + 1 := ⟨fu - 1, by omega⟩
    rw [wX_fillInstantiations_2]
    refine br_f (nI_nlt (by omega) (by omega)) ⟨D + 1, ?_⟩
    exact zx_f12 h2 h6 (by omega) (fun sz' tr' h' => ih (a + 1) f sz' tr' (by omega) (by omega) h') D 0 (D + 1) sz tr (by omega) (by omega) hE
theorem zx_fill {post : SX → Prop} {D : Nat} (h2 : 2 ≤ D) (h6 : D ≤ 6) (hp : ∀ sz' tr', zq_e0 D (D * D * D) sz' tr' → post (nI D, ins, cnt, st, cp, K, X, Y, Z, rs, dt, sz', tr', bd, el)) : wpX_fillInstantiations post (nI D, ins, cnt, st, cp, K, X, Y, Z, rs, dt, sz, tr, bd, el) := by
  unfold wpX_fillInstantiations
  dsimp only
  exact ⟨D + 1, zx_f2 h2 h6 hp D 0 (D + 1) sz tr (by omega) (by omega) (fun n hn => absurd hn (by omega))⟩
theorem zx_init {post : SX → Prop} {k0 : Int32} (hp : ∀ D sz' tr', 2 ≤ D → D ≤ 6 → ((2 ≤ k0 ∧ k0 ≤ 6 ∧ k0 = nI D) ∨ (2 ≤ k0 ∧ ¬ k0 ≤ 6 ∧ D = 6) ∨ (¬ 2 ≤ k0 ∧ D = 2)) → zq_e0 D (D * D * D) sz' tr' →
    post (nI D, nI (D * D * D), 0, 0, 0, (fun _ => 0), (fun _ => 0), (fun _ => 0), (fun _ => 0), (fun _ => 0), (fun _ => 0), sz', tr', upd (upd (upd (fun _ => 0) 0 1) 1 1) 2 1, (fun _ => 0))) : wpX_init post k0 := by
  unfold wpX_init
  have main : ∀ D, 2 ≤ D → D ≤ 6 → ((2 ≤ k0 ∧ k0 ≤ 6 ∧ k0 = nI D) ∨ (2 ≤ k0 ∧ ¬ k0 ≤ 6 ∧ D = 6) ∨ (¬ 2 ≤ k0 ∧ D = 2)) → ∀ ins, ins = nI D * nI D * nI D → wpX_fillInstantiations (fun u => match u with | (mx, ins, cnt, st, cp, K, X, Y, Z, rs, dt, sz, tr, bd, el) => (∃ n134 : Nat, wX_init_134 post mx ins cnt st cp n134 0 K X Y Z rs dt sz tr bd el)) (nI D, ins, 0, 0, 0, (fun _ => 0), (fun _ => 0), (fun _ => 0), (fun _ => 0), (fun _ => 0), (fun _ => 0), (fun _ => 0), (fun _ => 0), (fun _ => 0), (fun _ => 0)) := by
    intro D h2 h6 hk ins ei
    rw [pk_mul, pk_mul] at ei
    subst ei
    refine zx_fill h2 h6 (fun sz' tr' hE => ⟨4, ?_⟩)
    refine br_f (by decide) ⟨vp_in_nI (n := 0) (by omega) (by omega), nm_e (nm_e ?_)⟩
    refine br_f (by decide) ⟨vp_in_nI (n := 1) (by omega) (by omega), nm_e (nm_e ?_)⟩
    refine br_f (by decide) ⟨vp_in_nI (n := 2) (by omega) (by omega), nm_e (nm_e ?_)⟩
    refine br_t (by decide) ?_
    exact hp D sz' tr' h2 h6 hk hE
  unfold wpX_clampSize
  refine br_c (fun h => br_c (fun h' => ?_) (fun h' => ?_)) (fun h => ?_)
  · obtain ⟨j, hj, e⟩ := nI_of (x := k0) (fun z => by
      have w := Int32.lt_of_lt_of_le z (show (0 : Int32) ≤ 2 by decide)
      exact Int32.not_lt.mpr h w)
    have j2 : 2 ≤ j := by
      rw [e] at h
      exact (nI_leI (a := 2) (by omega) hj).mp h
    have j6 : j ≤ 6 := by
      rw [e] at h'
      exact (nI_leI (b := 6) hj (by omega)).mp h'
    have w := main j j2 j6 (Or.inl ⟨h, h', e⟩)
    rw [← e] at w
    exact w
  · exact main 6 (by omega) (by omega) (Or.inr (Or.inl ⟨h, h', rfl⟩))
  · exact main 2 (by omega) (by omega) (Or.inr (Or.inr ⟨h, rfl⟩))
end
end
section
/-! the class: what holds in all admissible instantiations -/
section
variable {mx ins cnt st cp : Int32} {K X Y Z rs dt sz tr bd el : Nat → Int32}
theorem zx_acc_l {post : Int32 → Prop} {N : Nat} (hN : N ≤ 216) (ok : zq_any (fun n => tr n = -1) N → post 1) (no : ¬ zq_any (fun n => tr n = -1) N → post 0) :
    ∀ d m fu : Nat, m + d = N → d < fu → ¬ zq_any (fun n => tr n = -1) m → wX_accepted_2 post mx (nI N) cnt st cp K X Y Z rs dt sz tr bd el fu (nI m) := by
  intro d
  induction d with
  | zero =>
    intro m fu hm hf h
    obtain ⟨f, rfl⟩ : ∃ f, fu = f + 1 := ⟨fu - 1, by omega⟩
    have e : m = N := by omega
    subst e
    rw [wX_accepted_2]
    exact br_t (Int32.le_refl _) (no h)
  | succ d ih =>
    intro m fu hm hf h
    obtain ⟨f, rfl⟩ : ∃ f, fu = f + 1 := ⟨fu - 1, by omega⟩
    rw [wX_accepted_2]
    refine br_f (nI_ge (by omega) (by omega)) ⟨vp_in_nI (by omega) (by omega), ?_⟩
    rw [nI_clamp (by omega)]
    refine br_c (fun ht => ok ⟨m, by omega, ht⟩) (fun ht => nm_r (nI_1 m) ?_)
    exact ih (m + 1) f (by omega) (by omega) (fun z => h ((zq_any_n (A := fun n => tr n = -1) ht).mpr z))
theorem zx_acc {post : Int32 → Prop} {N : Nat} (hN : N ≤ 216) (ok : zq_any (fun n => tr n = -1) N → post 1) (no : ¬ zq_any (fun n => tr n = -1) N → post 0) : wpX_accepted post (mx, nI N, cnt, st, cp, K, X, Y, Z, rs, dt, sz, tr, bd, el) := by
  unfold wpX_accepted
  dsimp only
  exact ⟨N + 1, zx_acc_l hN ok no N 0 (N + 1) (by omega) (by omega) zq_any_0⟩
theorem zx_cms_l {post : Int32 → Prop} {N pl : Nat} (hN : N ≤ 216) (hpl : pl < 35) (hz : ∀ n, n < N → tr n = -1 → ¬ sz (n * 35 + pl) = 0) (hp : ∀ r, zq_cm (fun n => tr n = -1) (fun n => sz (n * 35 + pl)) N r → post r) :
    ∀ d m fu : Nat, ∀ cm : Int32, m + d = N → d < fu → zq_same (fun n => tr n = -1) (fun n => sz (n * 35 + pl)) m → ((¬ zq_any (fun n => tr n = -1) m ∧ cm = 0) ∨ ∃ j, j < m ∧ tr j = -1 ∧ cm = sz (j * 35 + pl)) → wX_commonSize_4 post (nI pl) mx (nI N) cnt st cp K X Y Z rs dt sz tr bd el fu cm (nI m) := by
  intro d
  induction d with
  | zero =>
    intro m fu cm hm hf hs h
    obtain ⟨f, rfl⟩ : ∃ f, fu = f + 1 := ⟨fu - 1, by omega⟩
    have e : m = N := by omega
    subst e
    rw [wX_commonSize_4]
    refine br_t (Int32.le_refl _) (hp _ ?_)
    rcases h with ⟨h1, h2⟩ | ⟨j, h1, h2, h3⟩
    · exact Or.inr ⟨fun z => h1 z.1, h2⟩
    · exact Or.inl ⟨hs, j, h1, h2, h3⟩
  | succ d ih =>
    intro m fu cm hm hf hs h
    obtain ⟨f, rfl⟩ : ∃ f, fu = f + 1 := ⟨fu - 1, by omega⟩
    rw [wX_commonSize_4]
    refine br_f (nI_ge (by omega) (by omega)) ⟨vp_in_nI (by omega) (by omega), ?_⟩
    rw [nI_clamp (by omega), zq_m35, nI_add, nI_clamp (by omega)]
    refine br_c (fun ht => ⟨vp_in_nI (by omega) (by omega), nm_e ?_⟩) (fun ht => nm_r (nI_1 m) ?_)
    · refine br_c (fun h0 => nm_r (nI_1 m) ?_) (fun h0 => br_c (fun he => nm_r (nI_1 m) ?_) (fun he => hp _ ?_))
      · refine ih (m + 1) f _ (by omega) (by omega) (zq_same_1 (fun ⟨j, hj, hA⟩ => ?_)) (Or.inr ⟨m, by omega, ht, rfl⟩)
        rcases h with ⟨h1, h2⟩ | ⟨i, h1, h2, h3⟩
        · exact h1 ⟨j, hj, hA⟩
        · rw [h0] at h3
          exact hz i (by omega) h2 h3.symm
      · rcases h with ⟨h1, h2⟩ | ⟨j, h1, h2, h3⟩
        · exact absurd h2 h0
        · exact ih (m + 1) f _ (by omega) (by omega) ((zq_same_y (A := fun n => tr n = -1) (g := fun n => sz (n * 35 + pl)) h1 h2 (he.symm.trans h3)).mp hs) (Or.inr ⟨m, by omega, ht, rfl⟩)
      · rcases h with ⟨h1, h2⟩ | ⟨j, h1, h2, h3⟩
        · exact absurd h2 h0
        · exact Or.inr ⟨fun z => zq_same_f (A := fun n => tr n = -1) (g := fun n => sz (n * 35 + pl)) (i := m) (m0 := j) (by omega) (by omega) h2 ht (fun w => he (h3.trans w.symm)) z.2, rfl⟩
    · refine ih (m + 1) f _ (by omega) (by omega) ((zq_same_n (A := fun n => tr n = -1) ht).mp hs) ?_
      rcases h with ⟨h1, h2⟩ | ⟨j, h1, h2, h3⟩
      · exact Or.inl ⟨fun z => h1 ((zq_any_n (A := fun n => tr n = -1) ht).mpr z), h2⟩
      · exact Or.inr ⟨j, by omega, h2, h3⟩
theorem zx_cms {post : Int32 → Prop} {N pl : Nat} (hN : N ≤ 216) (hpl : pl < 35) (hz : ∀ n, n < N → tr n = -1 → ¬ sz (n * 35 + pl) = 0) (hp : ∀ r, zq_cm (fun n => tr n = -1) (fun n => sz (n * 35 + pl)) N r → post r) : wpX_commonSize post (mx, nI N, cnt, st, cp, K, X, Y, Z, rs, dt, sz, tr, bd, el) (nI pl) := by
  unfold wpX_commonSize
  dsimp only
  exact ⟨N + 1, zx_cms_l hN hpl hz hp N 0 (N + 1) 0 (by omega) (by omega) zq_same_0 (Or.inl ⟨zq_any_0, rfl⟩)⟩
theorem zx_aeq_l {post : Int32 → Prop} {N pl po : Nat} (hN : N ≤ 216) (hpl : pl < 35) (hpo : po < 35) (ok : zq_eqs (fun n => tr n = -1) (fun n => sz (n * 35 + pl)) (fun n => sz (n * 35 + po)) N → post 1) (no : ¬ zq_eqs (fun n => tr n = -1) (fun n => sz (n * 35 + pl)) (fun n => sz (n * 35 + po)) N → post 0) :
    ∀ d m fu : Nat, m + d = N → d < fu → zq_eqs (fun n => tr n = -1) (fun n => sz (n * 35 + pl)) (fun n => sz (n * 35 + po)) m → wX_alwaysEqual_2 post (nI pl) (nI po) mx (nI N) cnt st cp K X Y Z rs dt sz tr bd el fu (nI m) := by
  intro d
  induction d with
  | zero =>
    intro m fu hm hf h
    obtain ⟨f, rfl⟩ : ∃ f, fu = f + 1 := ⟨fu - 1, by omega⟩
    have e : m = N := by omega
    subst e
    rw [wX_alwaysEqual_2]
    exact br_t (Int32.le_refl _) (ok h)
  | succ d ih =>
    intro m fu hm hf h
    obtain ⟨f, rfl⟩ : ∃ f, fu = f + 1 := ⟨fu - 1, by omega⟩
    rw [wX_alwaysEqual_2]
    refine br_f (nI_ge (by omega) (by omega)) (nm_r (zq_m35 m) ⟨vp_in_nI (by omega) (by omega), ?_⟩)
    rw [nI_clamp (by omega), nI_add, nI_add, nI_clamp (by omega), nI_clamp (by omega)]
    refine br_c (fun ht => ⟨vp_in_nI (by omega) (by omega), vp_in_nI (by omega) (by omega), br_c (fun he => nm_r (nI_1 m) ?_) (fun he => no ?_)⟩) (fun ht => nm_r (nI_1 m) ?_)
    · exact ih (m + 1) f (by omega) (by omega) ((zq_eqs_y (A := fun n => tr n = -1) (g := fun n => sz (n * 35 + pl)) (f := fun n => sz (n * 35 + po)) he).mp h)
    · exact zq_eqs_f (A := fun n => tr n = -1) (g := fun n => sz (n * 35 + pl)) (f := fun n => sz (n * 35 + po)) (i := m) ht (by omega) he
    · exact ih (m + 1) f (by omega) (by omega) ((zq_eqs_n (A := fun n => tr n = -1) ht).mp h)
theorem zx_aeq {post : Int32 → Prop} {N pl po : Nat} (hN : N ≤ 216) (hpl : pl < 35) (hpo : po < 35) (ok : zq_eqs (fun n => tr n = -1) (fun n => sz (n * 35 + pl)) (fun n => sz (n * 35 + po)) N → post 1) (no : ¬ zq_eqs (fun n => tr n = -1) (fun n => sz (n * 35 + pl)) (fun n => sz (n * 35 + po)) N → post 0) : wpX_alwaysEqual post (mx, nI N, cnt, st, cp, K, X, Y, Z, rs, dt, sz, tr, bd, el) (nI pl) (nI po) := by
  unfold wpX_alwaysEqual
  dsimp only
  exact ⟨N + 1, zx_aeq_l hN hpl hpo ok no N 0 (N + 1) (by omega) (by omega) zq_eqs_0⟩
theorem zx_pla {post : Int32 → Prop} {i r s : Nat} (hi : i < 16) (hr : rs i = nI r) (hr2 : r ≤ 2) (hp : post (nI (i * 2 + 2 - r + s))) : wpX_placeOf post (mx, ins, cnt, st, cp, K, X, Y, Z, rs, dt, sz, tr, bd, el) (nI i) (nI s) := by
  unfold wpX_placeOf
  dsimp only
  rw [nI_clamp (by omega), hr, zq_m2, zq_a2, pk_sub (by omega), nI_add]
  exact ⟨vp_in_nI hi (by omega), hp⟩
theorem zx_dim {post : Int32 → Prop} {N c : Nat} {rk : Nat → Nat} {x y : Int32} (hN : N ≤ 216) (hc : c ≤ 16) (hr : ∀ j, j < c → rs j = nI (rk j) ∧ rk j ≤ 2)
    (hz : ∀ n i, n < N → tr n = -1 → i < c → ¬ sz (n * 35 + i * 2) = 0 ∧ ¬ sz (n * 35 + i * 2 + 1) = 0)
    (no : ¬ (∃ p s, p < c ∧ x = nI p ∧ y = nI s ∧ s < rk p) → post 0)
    (ok : ∀ p s r, p < c → x = nI p → y = nI s → s < rk p → zq_dr (fun n => tr n = -1) (fun n => sz (n * 35 + (p * 2 + 2 - rk p + s))) (fun n => sz (n * 35 + 32)) (fun n => sz (n * 35 + 33)) (fun n => sz (n * 35 + 34)) N r → post r) : wpX_dimOf post (mx, nI N, nI c, st, cp, K, X, Y, Z, rs, dt, sz, tr, bd, el) x y := by
  unfold wpX_dimOf
  dsimp only
  refine zx_hd hc hr (fun p s hp ex ey hs => br_f (by decide) ?_) (fun h => br_t rfl (no h))
  have ok1 := fun r => ok p s r hp ex ey hs
  clear ok
  have hr2 := (hr p hp).2
  have hz0 : ∀ n, n < N → tr n = -1 → ¬ sz (n * 35 + (p * 2 + 2 - rk p + s)) = 0 := by
    intro n hn ht
    have z := hz n p hn ht hp
    have e : p * 2 + 2 - rk p + s = p * 2 ∨ p * 2 + 2 - rk p + s = p * 2 + 1 := by omega
    rcases e with e | e
    · rw [e]; exact z.1
    · rw [e, ← Nat.add_assoc]; exact z.2
  refine zx_acc hN (fun ha => br_f (by decide) ?_) (fun ha => br_t rfl (ok1 0 (Or.inl ⟨ha, rfl⟩)))
  subst ex ey
  refine zx_pla (by omega) (hr p hp).1 hr2 ?_
  have hpl : p * 2 + 2 - rk p + s < 35 := by omega
  generalize p * 2 + 2 - rk p + s = pl at hpl hz0 ok1 ⊢
  refine zx_cms hN hpl hz0 (fun r hcm => ?_)
  rcases hcm with ⟨h1, m, h2, h3, h4⟩ | ⟨h1, h2⟩
  · have h0 : ¬ r = 0 := by rw [h4]; exact hz0 m h2 h3
    exact br_f h0 (ok1 r (Or.inr (Or.inl ⟨h1, m, h2, h3, h4⟩)))
  · have hns : ¬ zq_same (fun n => tr n = -1) (fun n => sz (n * 35 + pl)) N := fun z => h1 ⟨ha, z⟩
    have ok2 := fun r w => ok1 r (Or.inr (Or.inr ⟨ha, hns, w⟩))
    refine br_t h2 ⟨4, ?_⟩
    rw [wX_dimOf_43]
    refine br_f (by decide) ?_
    refine zx_aeq (po := 32) hN hpl (by omega) (fun q0 => br_f (by decide) ?_) (fun q0 => br_t rfl (nm_e ?_))
    · rw [show -((0 : Int32) + 1) = -1 from by decide]
      exact ok2 _ (Or.inl ⟨q0, rfl⟩)
    rw [wX_dimOf_43]
    refine br_f (by decide) ?_
    refine zx_aeq (po := 33) hN hpl (by omega) (fun q1 => br_f (by decide) ?_) (fun q1 => br_t rfl (nm_e ?_))
    · rw [show -((0 : Int32) + 1 + 1) = -2 from by decide]
      exact ok2 _ (Or.inr (Or.inl ⟨q0, q1, rfl⟩))
    rw [wX_dimOf_43]
    refine br_f (by decide) ?_
    refine zx_aeq (po := 34) hN hpl (by omega) (fun q2 => br_f (by decide) ?_) (fun q2 => br_t rfl (nm_e ?_))
    · rw [show -((0 : Int32) + 1 + 1 + 1) = -3 from by decide]
      exact ok2 _ (Or.inr (Or.inr (Or.inl ⟨q0, q1, q2, rfl⟩)))
    rw [wX_dimOf_43]
    exact br_t (by decide) (ok2 _ (Or.inr (Or.inr (Or.inr ⟨q0, q1, q2, rfl⟩))))
theorem zx_bin {post : Int32 → Prop} {D a b c : Nat} (h0 : bd 0 = nI (a + 1)) (h1 : bd 1 = nI (b + 1)) (h2 : bd 2 = nI (c + 1)) (hp : post (nI ((a * D + b) * D + c))) : wpX_boundInstantiation post (nI D, ins, cnt, st, cp, K, X, Y, Z, rs, dt, sz, tr, bd, el) := by
  unfold wpX_boundInstantiation
  dsimp only
  rw [h0, h1, h2]
  exact zx_iof hp
theorem zx_isy {post : Int32 → Prop} {x : Int32} (ok : ∀ j, j < 3 → x = nI j → post 1) (no : ¬ (∃ j, j < 3 ∧ x = nI j) → post 0) : wpX_isSymbol post x := by
  unfold wpX_isSymbol
  exact zq_cke (c := 3) (by omega) ok no
theorem zx_isc {post : Int32 → Prop} {c : Nat} {x : Int32} (hc : c ≤ 16) (ok : ∀ j, j < c → x = nI j → post 1) (no : ¬ (∃ j, j < c ∧ x = nI j) → post 0) : wpX_isComputed post (mx, ins, cnt, st, nI c, K, X, Y, Z, rs, dt, sz, tr, bd, el) x := by
  unfold wpX_isComputed
  dsimp only
  exact zq_cke (by omega) ok no
end
end
section
/-! the class: the value rules -/
section
variable {mx ins cnt st cp : Int32} {K X Y Z rs dt sz tr bd el : Nat → Int32}
theorem zx_cin_l {post : SX → Prop} {i n : Nat} (hi : i < 16) (hn : n ≤ 36) (hp : post (mx, ins, cnt, st, cp, K, X, Y, Z, rs, dt, sz, tr, bd, zq_fo (zq_fin dt (i * 36)) (i * 36) el n)) : ∀ d e fu : Nat, e + d = n → d < fu → wX_computeInput_16 post (nI (i * 36)) (nI n) mx ins cnt st cp fu (nI e) K X Y Z rs dt sz tr bd (zq_fo (zq_fin dt (i * 36)) (i * 36) el e) := by
  intro d
  induction d with
  | zero =>
    intro e fu he hf
    obtain ⟨f, rfl⟩ : ∃ f, fu = f + 1 := ⟨fu - 1, by omega⟩
    have e1 : e = n := by omega
    subst e1
    rw [wX_computeInput_16]
    exact br_t (Int32.le_refl _) hp
  | succ d ih =>
    intro e fu he hf
    obtain ⟨f, rfl⟩ : ∃ f, fu = f + 1 := ⟨fu - 1, by omega⟩
    rw [wX_computeInput_16]
    dsimp only
    rw [nI_add, nI_clamp (by omega)]
    exact br_f (nI_ge (by omega) (by omega)) ⟨vp_in_nI (by omega) (by omega), vp_in_nI (by omega) (by omega), nm_e (nm_r (nI_1 e) (ih (e + 1) f (by omega) (by omega)))⟩
theorem zx_cin {post : SX → Prop} {b i R C : Nat} (hb : b + 34 < 7560) (hi : i < 16) (er : sz (b + i * 2) = nI R) (ec : sz (b + i * 2 + 1) = nI C) (hn : R * C ≤ 36) (hp : post (mx, ins, cnt, st, cp, K, X, Y, Z, rs, dt, sz, tr, bd, zq_fo (zq_fin dt (i * 36)) (i * 36) el (R * C))) : wpX_computeInput post (mx, ins, cnt, st, cp, K, X, Y, Z, rs, dt, sz, tr, bd, el) (nI b) (nI i) := by
  unfold wpX_computeInput
  dsimp only
  refine nm_r (zq_m36 i) (zx_elc (by omega) ?_)
  rw [er, ec, pk_mul]
  exact ⟨R * C + 1, zx_cin_l hi hn hp (R * C) 0 _ (by omega) (by omega)⟩
theorem zx_ccp_l {post : SX → Prop} {i p n : Nat} (hi : i < 16) (hpi : p < 16) (hn : n ≤ 36) (hp : post (mx, ins, cnt, st, cp, K, X, Y, Z, rs, dt, sz, tr, bd, zq_fo (zq_fcp p) (i * 36) el n)) : ∀ d e fu : Nat, e + d = n → d < fu → wX_computeCopy_27 post (nI (i * 36)) (nI (p * 36)) (nI n) mx ins cnt st cp fu (nI e) K X Y Z rs dt sz tr bd (zq_fo (zq_fcp p) (i * 36) el e) := by
  intro d
  induction d with
  | zero =>
    intro e fu he hf
    obtain ⟨f, rfl⟩ : ∃ f, fu = f + 1 := ⟨fu - 1, by omega⟩
    have e1 : e = n := by omega
    subst e1
    rw [wX_computeCopy_27]
    exact br_t (Int32.le_refl _) hp
  | succ d ih =>
    intro e fu he hf
    obtain ⟨f, rfl⟩ : ∃ f, fu = f + 1 := ⟨fu - 1, by omega⟩
    rw [wX_computeCopy_27]
    dsimp only
    rw [nI_add (p * 36) e, nI_add (i * 36) e, nI_clamp (n := p * 36 + e) (by omega), nI_clamp (n := i * 36 + e) (by omega)]
    exact br_f (nI_ge (by omega) (by omega)) ⟨vp_in_nI (by omega) (by omega), vp_in_nI (by omega) (by omega), nm_e (nm_r (nI_1 e) (ih (e + 1) f (by omega) (by omega)))⟩
theorem zx_ccp {post : SX → Prop} {b i p R C : Nat} (hb : b + 34 < 7560) (hi : i < 16) (hpi : p < 16) (ex : X i = nI p) (er : sz (b + i * 2) = nI R) (ec : sz (b + i * 2 + 1) = nI C) (hn : R * C ≤ 36) (hp : post (mx, ins, cnt, st, cp, K, X, Y, Z, rs, dt, sz, tr, bd, zq_fo (zq_fcp p) (i * 36) el (R * C))) : wpX_computeCopy post (mx, ins, cnt, st, cp, K, X, Y, Z, rs, dt, sz, tr, bd, el) (nI b) (nI i) := by
  unfold wpX_computeCopy
  dsimp only
  rw [nI_clamp (by omega), ex]
  refine nm_r (zq_m36 i) ⟨vp_in_nI hi (by omega), nm_r (zq_m36 p) (zx_elc (by omega) ?_)⟩
  rw [er, ec, pk_mul]
  exact ⟨R * C + 1, zx_ccp_l hi hpi hn hp (R * C) 0 _ (by omega) (by omega)⟩
theorem zx_bce {post : Int32 → Prop} {b p r j Rp Cp : Nat} (hb : b + 34 < 7560) (hp : p < 16) (er : sz (b + p * 2) = nI Rp) (ec : sz (b + p * 2 + 1) = nI Cp) (hR : Rp ≤ 6) (hC : Cp ≤ 6) (hr : r < 6) (hj : j < 6) (h : post (el (p * 36 + zq_bi Rp Cp r j))) : wpX_broadcastElement post (mx, ins, cnt, st, cp, K, X, Y, Z, rs, dt, sz, tr, bd, el) (nI b) (nI p) (nI r) (nI j) := by
  unfold wpX_broadcastElement
  dsimp only
  refine zx_rows (by omega) (zx_cols (by omega) ?_)
  rw [er, ec]
  have l41 : ∀ a c : Nat, a < 6 → c < 6 → post (el (p * 36 + (a * Cp + c))) → wX_broadcastElement_41 post (nI p) (nI Cp) (nI a) (nI c) mx ins cnt st cp K X Y Z rs dt sz tr bd el := by
    intro a c ha hc hh
    have hx := zq_ix ha hC hc
    have e : nI p * 36 + nI a * nI Cp + nI c = nI (p * 36 + (a * Cp + c)) := by rw [zq_m36, pk_mul, nI_add, nI_add, Nat.add_assoc]
    unfold wX_broadcastElement_41
    rw [e, nI_clamp (by omega)]
    exact ⟨vp_in_nI (by omega) (by omega), hh⟩
  unfold zq_bi at h
  refine pk_eq Rp 1 (fun z1 => ?_) (fun z1 => ?_)
  · rw [if_pos z1] at h
    unfold wX_broadcastElement_27
    refine pk_eq Cp 1 (fun z2 => ?_) (fun z2 => ?_)
    · rw [if_pos z2] at h
      exact l41 0 0 (by omega) (by omega) h
    · rw [if_neg z2] at h
      exact l41 0 j (by omega) (by omega) h
  · rw [if_neg z1] at h
    unfold wX_broadcastElement_27
    refine pk_eq Cp 1 (fun z2 => ?_) (fun z2 => ?_)
    · rw [if_pos z2] at h
      exact l41 r 0 (by omega) (by omega) h
    · rw [if_neg z2] at h
      exact l41 r j (by omega) (by omega) h
theorem zx_cbc_i {post : SX → Prop} {J : Int32 → (Nat → Int32) → (Nat → Int32) → (Nat → Int32) → (Nat → Int32) → (Nat → Int32) → (Nat → Int32) → (Nat → Int32) → (Nat → Int32) → (Nat → Int32) → (Nat → Int32) → Prop} {b i p q r R C Rp Cp Rq Cq : Nat} (hb : b + 34 < 7560) (hi : i < 16) (hp : p < 16) (hq : q < 16) (ex : X i = nI p) (ey : Y i = nI q)
    (er : sz (b + p * 2) = nI Rp) (ec : sz (b + p * 2 + 1) = nI Cp) (fr : sz (b + q * 2) = nI Rq) (fc : sz (b + q * 2 + 1) = nI Cq) (h1 : Rp ≤ 6) (h2 : Cp ≤ 6) (h3 : Rq ≤ 6) (h4 : Cq ≤ 6) (hr : r < 6) (hC : C ≤ 6)
    (hJ : J (nI (r + 1)) K X Y Z rs dt sz tr bd (zq_fo (zq_fbc (K i) p q Rp Cp Rq Cq C) (i * 36) el (r * C + C))) :
    ∀ d j fu : Nat, j + d = C → d < fu → wX_computeBroadcast_34 post J (nI b) (nI i) (nI (i * 36)) (nI R) (nI C) (nI r) mx ins cnt st cp fu (nI j) K X Y Z rs dt sz tr bd (zq_fo (zq_fbc (K i) p q Rp Cp Rq Cq C) (i * 36) el (r * C + j)) := by
  intro d
  induction d with
  | zero =>
    intro j fu he hf
    obtain ⟨f, rfl⟩ : ∃ f, fu = f + 1 := ⟨fu - 1, by omega⟩
    have e1 : j = C := by omega
    subst e1
    rw [wX_computeBroadcast_34]
    exact br_t (Int32.le_refl _) (nm_r (nI_1 r) hJ)
  | succ d ih =>
    intro j fu he hf
    obtain ⟨f, rfl⟩ : ∃ f, fu = f + 1 := ⟨fu - 1, by omega⟩
    have hx := zq_ix hr hC (show j < 6 by omega)
    have hI := ih (j + 1) f (by omega) (by omega)
    have dm := zq_dm (i := r) (show j < C by omega)
    have es : zq_fo (zq_fbc (K i) p q Rp Cp Rq Cq C) (i * 36) el (r * C + (j + 1)) = upd (zq_fo (zq_fbc (K i) p q Rp Cp Rq Cq C) (i * 36) el (r * C + j)) (i * 36 + (r * C + j)) (zq_op (K i) ((zq_fo (zq_fbc (K i) p q Rp Cp Rq Cq C) (i * 36) el (r * C + j)) (p * 36 + zq_bi Rp Cp r j)) ((zq_fo (zq_fbc (K i) p q Rp Cp Rq Cq C) (i * 36) el (r * C + j)) (q * 36 + zq_bi Rq Cq r j))) := by
      rw [← Nat.add_assoc]
      show upd _ _ (zq_fbc (K i) p q Rp Cp Rq Cq C _ (r * C + j)) = _
      unfold zq_fbc
      rw [dm.1, dm.2]
    rw [es] at hI
    generalize zq_fo (zq_fbc (K i) p q Rp Cp Rq Cq C) (i * 36) el (r * C + j) = w at hI ⊢
    have e : nI (i * 36) + nI r * nI C + nI j = nI (i * 36 + (r * C + j)) := by rw [pk_mul, nI_add, nI_add, Nat.add_assoc]
    rw [wX_computeBroadcast_34]
    dsimp only
    rw [nI_clamp (n := i) (by omega), ex, ey, e, nI_clamp (by omega)]
    refine br_f (nI_ge (by omega) (by omega)) ⟨vp_in_nI hi (by omega), ?_⟩
    refine zx_bce hb hp er ec h1 h2 hr (by omega) ⟨vp_in_nI hi (by omega), ?_⟩
    refine zx_bce hb hq fr fc h3 h4 hr (by omega) ⟨vp_in_nI hi (by omega), ?_⟩
    unfold zq_op at hI
    refine br_c (fun hk => ⟨vp_in_nI (by omega) (by omega), nm_e (nm_r (nI_1 j) ?_)⟩) (fun hk => ⟨vp_in_nI (by omega) (by omega), nm_e (nm_r (nI_1 j) ?_)⟩)
    · rw [if_pos hk] at hI
      exact hI
    · rw [if_neg hk] at hI
      exact hI
theorem zx_cbc_o {post : SX → Prop} {b i p q R C Rp Cp Rq Cq : Nat} (hb : b + 34 < 7560) (hi : i < 16) (hp : p < 16) (hq : q < 16) (ex : X i = nI p) (ey : Y i = nI q)
    (er : sz (b + p * 2) = nI Rp) (ec : sz (b + p * 2 + 1) = nI Cp) (fr : sz (b + q * 2) = nI Rq) (fc : sz (b + q * 2 + 1) = nI Cq) (h1 : Rp ≤ 6) (h2 : Cp ≤ 6) (h3 : Rq ≤ 6) (h4 : Cq ≤ 6) (hR : R ≤ 6) (hC : C ≤ 6)
    (h : post (mx, ins, cnt, st, cp, K, X, Y, Z, rs, dt, sz, tr, bd, zq_fo (zq_fbc (K i) p q Rp Cp Rq Cq C) (i * 36) el (R * C))) :
    ∀ d r fu : Nat, r + d = R → d < fu → wX_computeBroadcast_24 post (nI b) (nI i) (nI (i * 36)) (nI R) (nI C) mx ins cnt st cp fu (nI r) K X Y Z rs dt sz tr bd (zq_fo (zq_fbc (K i) p q Rp Cp Rq Cq C) (i * 36) el (r * C)) := by
  intro d
  induction d with
  | zero =>
    intro r fu he hf
    obtain ⟨f, rfl⟩ : ∃ f, fu = f + 1 := ⟨fu - 1, by omega⟩
    have e1 : r = R := by omega
    subst e1
    rw [wX_computeBroadcast_24]
    exact br_t (Int32.le_refl _) h
  | succ d ih =>
    intro r fu he hf
    obtain ⟨f, rfl⟩ : ∃ f, fu = f + 1 := ⟨fu - 1, by omega⟩
    rw [wX_computeBroadcast_24]
    refine br_f (nI_ge (by omega) (by omega)) ⟨C + 1, ?_⟩
    have hI := ih (r + 1) f (by omega) (by omega)
    rw [Nat.add_mul, Nat.one_mul] at hI
    exact zx_cbc_i hb hi hp hq ex ey er ec fr fc h1 h2 h3 h4 (by omega) hC hI C 0 (C + 1) (by omega) (by omega)
theorem zx_cbc {post : SX → Prop} {b i p q R C Rp Cp Rq Cq : Nat} (hb : b + 34 < 7560) (hi : i < 16) (hp : p < 16) (hq : q < 16) (ex : X i = nI p) (ey : Y i = nI q)
    (gr : sz (b + i * 2) = nI R) (gc : sz (b + i * 2 + 1) = nI C)
    (er : sz (b + p * 2) = nI Rp) (ec : sz (b + p * 2 + 1) = nI Cp) (fr : sz (b + q * 2) = nI Rq) (fc : sz (b + q * 2 + 1) = nI Cq) (h1 : Rp ≤ 6) (h2 : Cp ≤ 6) (h3 : Rq ≤ 6) (h4 : Cq ≤ 6) (hR : R ≤ 6) (hC : C ≤ 6)
    (h : post (mx, ins, cnt, st, cp, K, X, Y, Z, rs, dt, sz, tr, bd, zq_fo (zq_fbc (K i) p q Rp Cp Rq Cq C) (i * 36) el (R * C))) : wpX_computeBroadcast post (mx, ins, cnt, st, cp, K, X, Y, Z, rs, dt, sz, tr, bd, el) (nI b) (nI i) := by
  unfold wpX_computeBroadcast
  dsimp only
  refine nm_r (zq_m36 i) (zx_rows (by omega) (zx_cols (by omega) ?_))
  rw [gr, gc]
  have W := zx_cbc_o hb hi hp hq ex ey er ec fr fc h1 h2 h3 h4 hR hC h R 0 (R + 1) (by omega) (by omega)
  rw [Nat.zero_mul] at W
  exact ⟨R + 1, W⟩
theorem zx_mme_l {post : Int32 → Prop} {p q r j m C : Nat} (hp : p < 16) (hq : q < 16) (hr : r < 6) (hj : j < 6) (hm : m ≤ 6) (hC : C ≤ 6) (h : post (zq_sm (fun t => el (p * 36 + r * m + t) * el (q * 36 + t * C + j)) m)) :
    ∀ d t fu : Nat, t + d = m → d < fu → wX_matmulElement_49 post (nI r) (nI j) (nI (p * 36)) (nI (q * 36)) (nI m) (nI C) mx ins cnt st cp K X Y Z rs dt sz tr bd el fu (zq_sm (fun t => el (p * 36 + r * m + t) * el (q * 36 + t * C + j)) t) (nI t) := by
  intro d
  induction d with
  | zero =>
    intro t fu he hf
    obtain ⟨f, rfl⟩ : ∃ f, fu = f + 1 := ⟨fu - 1, by omega⟩
    have e1 : t = m := by omega
    subst e1
    rw [wX_matmulElement_49]
    exact br_t (Int32.le_refl _) h
  | succ d ih =>
    intro t fu he hf
    obtain ⟨f, rfl⟩ : ∃ f, fu = f + 1 := ⟨fu - 1, by omega⟩
    have hx := zq_ix hr hm (show t < 6 by omega)
    have hy := zq_ix (show t < 6 by omega) hC hj
    rw [wX_matmulElement_49]
    dsimp only
    rw [pk_mul r m, pk_mul t C, nI_add, nI_add, nI_add, nI_add, nI_clamp (by omega), nI_clamp (by omega)]
    exact br_f (nI_ge (by omega) (by omega)) ⟨vp_in_nI (by omega) (by omega), vp_in_nI (by omega) (by omega), nm_e (nm_r (nI_1 t) (ih (t + 1) f (by omega) (by omega)))⟩
theorem zx_mme {post : Int32 → Prop} {b i p q r j m C : Nat} (hb : b + 34 < 7560) (hi : i < 16) (hp : p < 16) (hq : q < 16) (ex : X i = nI p) (ey : Y i = nI q) (gc : sz (b + i * 2 + 1) = nI C) (ec : sz (b + p * 2 + 1) = nI m)
    (hr : r < 6) (hj : j < 6) (hm : m ≤ 6) (hC : C ≤ 6) (h : post (zq_sm (fun t => el (p * 36 + r * m + t) * el (q * 36 + t * C + j)) m)) : wpX_matmulElement post (mx, ins, cnt, st, cp, K, X, Y, Z, rs, dt, sz, tr, bd, el) (nI b) (nI i) (nI r) (nI j) := by
  unfold wpX_matmulElement
  dsimp only
  rw [nI_clamp (by omega), ex, ey]
  refine ⟨vp_in_nI hi (by omega), nm_r (zq_m36 p) ⟨vp_in_nI hi (by omega), nm_r (zq_m36 q) ⟨vp_in_nI hi (by omega), zx_cols (by omega) (zx_cols (by omega) ?_)⟩⟩⟩
  rw [ec, gc]
  exact ⟨m + 1, zx_mme_l hp hq hr hj hm hC h m 0 (m + 1) (by omega) (by omega)⟩
theorem zx_cmm_i {post : SX → Prop} {J : Int32 → (Nat → Int32) → (Nat → Int32) → (Nat → Int32) → (Nat → Int32) → (Nat → Int32) → (Nat → Int32) → (Nat → Int32) → (Nat → Int32) → (Nat → Int32) → (Nat → Int32) → Prop} {b i p q r m R C : Nat} (hb : b + 34 < 7560) (hi : i < 16) (hp : p < 16) (hq : q < 16) (ex : X i = nI p) (ey : Y i = nI q)
    (gc : sz (b + i * 2 + 1) = nI C) (ec : sz (b + p * 2 + 1) = nI m) (hm : m ≤ 6) (hr : r < 6) (hC : C ≤ 6)
    (hJ : J (nI (r + 1)) K X Y Z rs dt sz tr bd (zq_fo (zq_fmm p q m C) (i * 36) el (r * C + C))) :
    ∀ d j fu : Nat, j + d = C → d < fu → wX_computeMatmul_34 post J (nI b) (nI i) (nI (i * 36)) (nI R) (nI C) (nI r) mx ins cnt st cp fu (nI j) K X Y Z rs dt sz tr bd (zq_fo (zq_fmm p q m C) (i * 36) el (r * C + j)) := by
  intro d
  induction d with
  | zero =>
    intro j fu he hf
    obtain ⟨f, rfl⟩ : ∃ f, fu = f + 1 := ⟨fu - 1, by omega⟩
    have e1 : j = C := by omega
    subst e1
    rw [wX_computeMatmul_34]
    exact br_t (Int32.le_refl _) (nm_r (nI_1 r) hJ)
  | succ d ih =>
    intro j fu he hf
    obtain ⟨f, rfl⟩ : ∃ f, fu = f + 1 := ⟨fu - 1, by omega⟩
    have hx := zq_ix hr hC (show j < 6 by omega)
    have hI := ih (j + 1) f (by omega) (by omega)
    have dm := zq_dm (i := r) (show j < C by omega)
    have es : zq_fo (zq_fmm p q m C) (i * 36) el (r * C + (j + 1)) = upd (zq_fo (zq_fmm p q m C) (i * 36) el (r * C + j)) (i * 36 + (r * C + j)) (zq_sm (fun t => (zq_fo (zq_fmm p q m C) (i * 36) el (r * C + j)) (p * 36 + r * m + t) * (zq_fo (zq_fmm p q m C) (i * 36) el (r * C + j)) (q * 36 + t * C + j)) m) := by
      rw [← Nat.add_assoc]
      show upd _ _ (zq_fmm p q m C _ (r * C + j)) = _
      unfold zq_fmm
      rw [dm.1, dm.2]
    rw [es] at hI
    generalize zq_fo (zq_fmm p q m C) (i * 36) el (r * C + j) = w at hI ⊢
    have e : nI (i * 36) + nI r * nI C + nI j = nI (i * 36 + (r * C + j)) := by rw [pk_mul, nI_add, nI_add, Nat.add_assoc]
    rw [wX_computeMatmul_34]
    dsimp only
    rw [e, nI_clamp (by omega)]
    refine br_f (nI_ge (by omega) (by omega)) ?_
    exact zx_mme hb hi hp hq ex ey gc ec hr (by omega) hm hC ⟨vp_in_nI (by omega) (by omega), nm_e (nm_r (nI_1 j) hI)⟩
theorem zx_cmm_o {post : SX → Prop} {b i p q m R C : Nat} (hb : b + 34 < 7560) (hi : i < 16) (hp : p < 16) (hq : q < 16) (ex : X i = nI p) (ey : Y i = nI q)
    (gc : sz (b + i * 2 + 1) = nI C) (ec : sz (b + p * 2 + 1) = nI m) (hm : m ≤ 6) (hR : R ≤ 6) (hC : C ≤ 6)
    (h : post (mx, ins, cnt, st, cp, K, X, Y, Z, rs, dt, sz, tr, bd, zq_fo (zq_fmm p q m C) (i * 36) el (R * C))) :
    ∀ d r fu : Nat, r + d = R → d < fu → wX_computeMatmul_24 post (nI b) (nI i) (nI (i * 36)) (nI R) (nI C) mx ins cnt st cp fu (nI r) K X Y Z rs dt sz tr bd (zq_fo (zq_fmm p q m C) (i * 36) el (r * C)) := by
  intro d
  induction d with
  | zero =>
    intro r fu he hf
    obtain ⟨f, rfl⟩ : ∃ f, fu = f + 1 := ⟨fu - 1, by omega⟩
    have e1 : r = R := by omega
    subst e1
    rw [wX_computeMatmul_24]
    exact br_t (Int32.le_refl _) h
  | succ d ih =>
    intro r fu he hf
    obtain ⟨f, rfl⟩ : ∃ f, fu = f + 1 := ⟨fu - 1, by omega⟩
    rw [wX_computeMatmul_24]
    refine br_f (nI_ge (by omega) (by omega)) ⟨C + 1, ?_⟩
    have hI := ih (r + 1) f (by omega) (by omega)
    rw [Nat.add_mul, Nat.one_mul] at hI
    exact zx_cmm_i hb hi hp hq ex ey gc ec hm (by omega) hC hI C 0 (C + 1) (by omega) (by omega)
theorem zx_cmm {post : SX → Prop} {b i p q m R C : Nat} (hb : b + 34 < 7560) (hi : i < 16) (hp : p < 16) (hq : q < 16) (ex : X i = nI p) (ey : Y i = nI q)
    (gr : sz (b + i * 2) = nI R) (gc : sz (b + i * 2 + 1) = nI C) (ec : sz (b + p * 2 + 1) = nI m) (hm : m ≤ 6) (hR : R ≤ 6) (hC : C ≤ 6)
    (h : post (mx, ins, cnt, st, cp, K, X, Y, Z, rs, dt, sz, tr, bd, zq_fo (zq_fmm p q m C) (i * 36) el (R * C))) : wpX_computeMatmul post (mx, ins, cnt, st, cp, K, X, Y, Z, rs, dt, sz, tr, bd, el) (nI b) (nI i) := by
  unfold wpX_computeMatmul
  dsimp only
  refine nm_r (zq_m36 i) (zx_rows (by omega) (zx_cols (by omega) ?_))
  rw [gr, gc]
  have W := zx_cmm_o hb hi hp hq ex ey gc ec hm hR hC h R 0 (R + 1) (by omega) (by omega)
  rw [Nat.zero_mul] at W
  exact ⟨R + 1, W⟩
theorem zx_ctr_i {post : SX → Prop} {J : Int32 → (Nat → Int32) → (Nat → Int32) → (Nat → Int32) → (Nat → Int32) → (Nat → Int32) → (Nat → Int32) → (Nat → Int32) → (Nat → Int32) → (Nat → Int32) → (Nat → Int32) → Prop} {i p r R C : Nat} (hi : i < 16) (hp : p < 16) (hr : r < R) (hR : R ≤ 6) (hC : C ≤ 6)
    (hJ : J (nI (r + 1)) K X Y Z rs dt sz tr bd (zq_fo (zq_ftr p R C) (i * 36) el (r * C + C))) :
    ∀ d j fu : Nat, j + d = C → d < fu → wX_computeTranspose_62 post J (nI (i * 36)) (nI (p * 36)) (nI R) (nI C) (nI r) mx ins cnt st cp fu (nI j) K X Y Z rs dt sz tr bd (zq_fo (zq_ftr p R C) (i * 36) el (r * C + j)) := by
  intro d
  induction d with
  | zero =>
    intro j fu he hf
    obtain ⟨f, rfl⟩ : ∃ f, fu = f + 1 := ⟨fu - 1, by omega⟩
    have e1 : j = C := by omega
    subst e1
    rw [wX_computeTranspose_62]
    exact br_t (Int32.le_refl _) (nm_r (nI_1 r) hJ)
  | succ d ih =>
    intro j fu he hf
    obtain ⟨f, rfl⟩ : ∃ f, fu = f + 1 := ⟨fu - 1, by omega⟩
    have hx := zq_ix (show r < 6 by omega) hC (show j < 6 by omega)
    have hy := zq_ix (show j < 6 by omega) hR (show r < 6 by omega)
    have hI := ih (j + 1) f (by omega) (by omega)
    have dm := zq_dm (i := r) (show j < C by omega)
    have es : zq_fo (zq_ftr p R C) (i * 36) el (r * C + (j + 1)) = upd (zq_fo (zq_ftr p R C) (i * 36) el (r * C + j)) (i * 36 + (r * C + j)) ((zq_fo (zq_ftr p R C) (i * 36) el (r * C + j)) (p * 36 + j * R + r)) := by
      rw [← Nat.add_assoc]
      show upd _ _ (zq_ftr p R C _ (r * C + j)) = _
      unfold zq_ftr
      rw [dm.1, dm.2]
    rw [es] at hI
    generalize zq_fo (zq_ftr p R C) (i * 36) el (r * C + j) = w at hI ⊢
    have e : nI (i * 36) + nI r * nI C + nI j = nI (i * 36 + (r * C + j)) := by rw [pk_mul, nI_add, nI_add, Nat.add_assoc]
    have e' : nI (p * 36) + nI j * nI R + nI r = nI (p * 36 + j * R + r) := by rw [pk_mul, nI_add, nI_add]
    rw [wX_computeTranspose_62]
    dsimp only
    rw [e, e', nI_clamp (n := i * 36 + (r * C + j)) (by omega), nI_clamp (n := p * 36 + j * R + r) (by omega)]
    exact br_f (nI_ge (by omega) (by omega)) ⟨vp_in_nI (by omega) (by omega), vp_in_nI (by omega) (by omega), nm_e (nm_r (nI_1 j) hI)⟩
theorem zx_ctr_o {post : SX → Prop} {i p R C : Nat} (hi : i < 16) (hp : p < 16) (hR : R ≤ 6) (hC : C ≤ 6)
    (h : post (mx, ins, cnt, st, cp, K, X, Y, Z, rs, dt, sz, tr, bd, zq_fo (zq_ftr p R C) (i * 36) el (R * C))) :
    ∀ d r fu : Nat, r + d = R → d < fu → wX_computeTranspose_52 post (nI (i * 36)) (nI (p * 36)) (nI R) (nI C) mx ins cnt st cp fu (nI r) K X Y Z rs dt sz tr bd (zq_fo (zq_ftr p R C) (i * 36) el (r * C)) := by
  intro d
  induction d with
  | zero =>
    intro r fu he hf
    obtain ⟨f, rfl⟩ : ∃ f, fu = f + 1 := ⟨fu - 1, by omega⟩
    have e1 : r = R := by omega
    subst e1
    rw [wX_computeTranspose_52]
    exact br_t (Int32.le_refl _) h
  | succ d ih =>
    intro r fu he hf
    obtain ⟨f, rfl⟩ : ∃ f, fu = f + 1 := ⟨fu - 1, by omega⟩
    rw [wX_computeTranspose_52]
    refine br_f (nI_ge (by omega) (by omega)) ⟨C + 1, ?_⟩
    have hI := ih (r + 1) f (by omega) (by omega)
    rw [Nat.add_mul, Nat.one_mul] at hI
    exact zx_ctr_i hi hp (by omega) hR hC hI C 0 (C + 1) (by omega) (by omega)
theorem zx_ctr {post : SX → Prop} {b i p R C : Nat} (hb : b + 34 < 7560) (hi : i < 16) (hp : p < 16) (ex : X i = nI p) (h2 : rs i = 2) (gr : sz (b + i * 2) = nI R) (gc : sz (b + i * 2 + 1) = nI C) (hR : R ≤ 6) (hC : C ≤ 6)
    (h : post (mx, ins, cnt, st, cp, K, X, Y, Z, rs, dt, sz, tr, bd, zq_fo (zq_ftr p R C) (i * 36) el (R * C))) : wpX_computeTranspose post (mx, ins, cnt, st, cp, K, X, Y, Z, rs, dt, sz, tr, bd, el) (nI b) (nI i) := by
  unfold wpX_computeTranspose
  dsimp only
  rw [nI_clamp (by omega), ex]
  refine ⟨vp_in_nI hi (by omega), br_t h2 (nm_r (zq_m36 i) ⟨vp_in_nI hi (by omega), nm_r (zq_m36 p) (zx_rows (by omega) (zx_cols (by omega) ?_))⟩)⟩
  rw [gr, gc]
  have W := zx_ctr_o hi hp hR hC h R 0 (R + 1) (by omega) (by omega)
  rw [Nat.zero_mul] at W
  exact ⟨R + 1, W⟩
theorem zx_soco_l {post : Int32 → Prop} {p j R C : Nat} (hp : p < 16) (hj : j < 6) (hR : R ≤ 6) (hC : C ≤ 6) (h : post (zq_sm (fun t => el (p * 36 + t * C + j)) R)) :
    ∀ d t fu : Nat, t + d = R → d < fu → wX_sumOfColumn_28 post (nI j) (nI (p * 36)) (nI R) (nI C) mx ins cnt st cp K X Y Z rs dt sz tr bd el fu (zq_sm (fun t => el (p * 36 + t * C + j)) t) (nI t) := by
  intro d
  induction d with
  | zero =>
    intro t fu he hf
    obtain ⟨f, rfl⟩ : ∃ f, fu = f + 1 := ⟨fu - 1, by omega⟩
    have e1 : t = R := by omega
    subst e1
    rw [wX_sumOfColumn_28]
    exact br_t (Int32.le_refl _) h
  | succ d ih =>
    intro t fu he hf
    obtain ⟨f, rfl⟩ : ∃ f, fu = f + 1 := ⟨fu - 1, by omega⟩
    have hy := zq_ix (show t < 6 by omega) hC hj
    rw [wX_sumOfColumn_28]
    dsimp only
    rw [pk_mul t C, nI_add, nI_add, nI_clamp (by omega)]
    exact br_f (nI_ge (by omega) (by omega)) ⟨vp_in_nI (by omega) (by omega), nm_e (nm_r (nI_1 t) (ih (t + 1) f (by omega) (by omega)))⟩
theorem zx_soco {post : Int32 → Prop} {b p j R C : Nat} (hb : b + 34 < 7560) (hp : p < 16) (hj : j < 6) (gr : sz (b + p * 2) = nI R) (gc : sz (b + p * 2 + 1) = nI C) (hR : R ≤ 6) (hC : C ≤ 6) (h : post (zq_sm (fun t => el (p * 36 + t * C + j)) R)) : wpX_sumOfColumn post (mx, ins, cnt, st, cp, K, X, Y, Z, rs, dt, sz, tr, bd, el) (nI b) (nI p) (nI j) := by
  unfold wpX_sumOfColumn
  dsimp only
  refine nm_r (zq_m36 p) (zx_rows (by omega) (zx_cols (by omega) ?_))
  rw [gr, gc]
  exact ⟨R + 1, zx_soco_l hp hj hR hC h R 0 (R + 1) (by omega) (by omega)⟩
theorem zx_soro_l {post : Int32 → Prop} {p j C : Nat} (hp : p < 16) (hj : j < 6) (hC : C ≤ 6) (h : post (zq_sm (fun t => el (p * 36 + j * C + t)) C)) :
    ∀ d t fu : Nat, t + d = C → d < fu → wX_sumOfRow_20 post (nI j) (nI (p * 36)) (nI C) mx ins cnt st cp K X Y Z rs dt sz tr bd el fu (zq_sm (fun t => el (p * 36 + j * C + t)) t) (nI t) := by
  intro d
  induction d with
  | zero =>
    intro t fu he hf
    obtain ⟨f, rfl⟩ : ∃ f, fu = f + 1 := ⟨fu - 1, by omega⟩
    have e1 : t = C := by omega
    subst e1
    rw [wX_sumOfRow_20]
    exact br_t (Int32.le_refl _) h
  | succ d ih =>
    intro t fu he hf
    obtain ⟨f, rfl⟩ : ∃ f, fu = f + 1 := ⟨fu - 1, by omega⟩
    have hy := zq_ix hj hC (show t < 6 by omega)
    rw [wX_sumOfRow_20]
    dsimp only
    rw [pk_mul j C, nI_add, nI_add, nI_clamp (by omega)]
    exact br_f (nI_ge (by omega) (by omega)) ⟨vp_in_nI (by omega) (by omega), nm_e (nm_r (nI_1 t) (ih (t + 1) f (by omega) (by omega)))⟩
theorem zx_soro {post : Int32 → Prop} {b p j C : Nat} (hb : b + 34 < 7560) (hp : p < 16) (hj : j < 6) (gc : sz (b + p * 2 + 1) = nI C) (hC : C ≤ 6) (h : post (zq_sm (fun t => el (p * 36 + j * C + t)) C)) : wpX_sumOfRow post (mx, ins, cnt, st, cp, K, X, Y, Z, rs, dt, sz, tr, bd, el) (nI b) (nI p) (nI j) := by
  unfold wpX_sumOfRow
  dsimp only
  refine nm_r (zq_m36 p) (zx_cols (by omega) ?_)
  rw [gc]
  exact ⟨C + 1, zx_soro_l hp hj hC h C 0 (C + 1) (by omega) (by omega)⟩
theorem zx_csu_l {post : SX → Prop} {b i p n r Rp Cp : Nat} {F : (Nat → Int32) → Nat → Int32} (hb : b + 34 < 7560) (hi : i < 16) (hp : p < i) (ex : X i = nI p) (hr : r ≤ 2) (eR : rs p = nI r) (er : sz (b + p * 2) = nI Rp) (ec : sz (b + p * 2 + 1) = nI Cp) (hR : Rp ≤ 6) (hC : Cp ≤ 6) (hn : n ≤ 6)
    (hF : F = if r = 2 ∧ Y i = 0 then zq_fsc p Rp Cp else zq_fsr p Cp) (h : post (mx, ins, cnt, st, cp, K, X, Y, Z, rs, dt, sz, tr, bd, zq_fo F (i * 36) el n)) :
    ∀ d e fu : Nat, e + d = n → d < fu → wX_computeSum_16 post (nI b) (nI i) (nI (i * 36)) (nI n) mx ins cnt st cp fu (nI e) K X Y Z rs dt sz tr bd (zq_fo F (i * 36) el e) := by
  intro d
  induction d with
  | zero =>
    intro e fu he hf
    obtain ⟨f, rfl⟩ : ∃ f, fu = f + 1 := ⟨fu - 1, by omega⟩
    have e1 : e = n := by omega
    subst e1
    rw [wX_computeSum_16]
    exact br_t (Int32.le_refl _) h
  | succ d ih =>
    intro e fu he hf
    obtain ⟨f, rfl⟩ : ∃ f, fu = f + 1 := ⟨fu - 1, by omega⟩
    have hI := ih (e + 1) f (by omega) (by omega)
    have es : zq_fo F (i * 36) el (e + 1) = upd (zq_fo F (i * 36) el e) (i * 36 + e) (F (zq_fo F (i * 36) el e) e) := rfl
    rw [es] at hI
    generalize zq_fo F (i * 36) el e = w at hI ⊢
    rw [wX_computeSum_16]
    dsimp only
    rw [nI_add, nI_clamp (by omega), nI_clamp (n := i) (by omega), ex]
    refine br_f (nI_ge (by omega) (by omega)) ?_
    refine zx_smr hi hp ex hr eR (fun z => br_f (by decide) ⟨vp_in_nI hi (by omega), ?_⟩) (fun z => br_t rfl ⟨vp_in_nI hi (by omega), ?_⟩)
    · rw [if_pos z] at hF
      rw [hF] at hI
      exact zx_soco hb (by omega) (by omega) er ec hR hC ⟨vp_in_nI (by omega) (by omega), nm_e (nm_r (nI_1 e) hI)⟩
    · rw [if_neg z] at hF
      rw [hF] at hI
      exact zx_soro hb (by omega) (by omega) ec hC ⟨vp_in_nI (by omega) (by omega), nm_e (nm_r (nI_1 e) hI)⟩
theorem zx_csu {post : SX → Prop} {b i p n r Rp Cp : Nat} {F : (Nat → Int32) → Nat → Int32} (hb : b + 34 < 7560) (hi : i < 16) (hp : p < i) (ex : X i = nI p) (hr : r ≤ 2) (eR : rs p = nI r) (gr : sz (b + i * 2) = 1) (gc : sz (b + i * 2 + 1) = nI n) (er : sz (b + p * 2) = nI Rp) (ec : sz (b + p * 2 + 1) = nI Cp) (hR : Rp ≤ 6) (hC : Cp ≤ 6) (hn : n ≤ 6)
    (hF : F = if r = 2 ∧ Y i = 0 then zq_fsc p Rp Cp else zq_fsr p Cp) (h : post (mx, ins, cnt, st, cp, K, X, Y, Z, rs, dt, sz, tr, bd, zq_fo F (i * 36) el n)) : wpX_computeSum post (mx, ins, cnt, st, cp, K, X, Y, Z, rs, dt, sz, tr, bd, el) (nI b) (nI i) := by
  unfold wpX_computeSum
  dsimp only
  refine nm_r (zq_m36 i) (zx_elc (by omega) ?_)
  have e : (1 : Int32) * nI n = nI n := by
    show nI 1 * nI n = nI n
    rw [pk_mul, Nat.one_mul]
  rw [gr, gc, e]
  exact ⟨n + 1, zx_csu_l hb hi hp ex hr eR er ec hR hC hn hF h n 0 (n + 1) (by omega) (by omega)⟩
theorem zx_compute {post : SX → Prop} {D b i a0 a1 a2 : Nat} {rk R C : Nat → Nat} (hb : b + 34 < 7560) (hi : i < 16) (hn : zq_nd D i rk (K i) (X i) (Y i) (Z i)) (hr : ∀ j, j ≤ i → rs j = nI (rk j) ∧ rk j ≤ 2)
    (hc : ∀ j, j ≤ i → sz (b + j * 2) = nI (R j) ∧ sz (b + j * 2 + 1) = nI (C j)) (hg : ∀ j, j ≤ i → R j ≤ 6 ∧ C j ≤ 6) (hu : zq_ru (K i) (X i) (Y i) (Z i) a0 a1 a2 rk R C = some (R i, C i))
    (hp : post (mx, ins, cnt, st, cp, K, X, Y, Z, rs, dt, sz, tr, bd, zq_fo (zq_f (K i) (X i) (Y i) i dt rk R C) (i * 36) el (R i * C i))) : wpX_compute post (mx, ins, cnt, st, cp, K, X, Y, Z, rs, dt, sz, tr, bd, el) (nI b) (nI i) := by
  have gi := hg i (by omega)
  have hRC : R i * C i ≤ 6 * 6 := Nat.mul_le_mul gi.1 gi.2
  unfold wpX_compute
  dsimp only
  rw [nI_clamp (by omega)]
  refine ⟨vp_in_nI hi (by omega), ?_⟩
  rcases hn with ⟨ek, h2, h3⟩ | ⟨p, q, hpi, hqi, ex, ey, ek, h4⟩ | ⟨p, q, hpi, hqi, ex, ey, ek, h4, h5, h7⟩ | ⟨p, hpi, ex, ek, h3⟩ | ⟨p, hpi, ex, ek, h3, h4⟩ | ⟨p, s, hpi, ex, ek, h3, h4, h5⟩
  · refine nm_r ek (br_f (by decide) (br_f (by decide) (br_t rfl ?_)))
    rw [ek, zq_f1] at hp
    exact zx_cin hb hi (hc i (by omega)).1 (hc i (by omega)).2 (by omega) hp
  · rw [ex, ey, zq_f2 (by omega) (by omega) ek] at hp
    have gp := hg p (by omega)
    have gq := hg q (by omega)
    have main : wX_compute_53 post (nI b) (nI i) mx ins cnt st cp K X Y Z rs dt sz tr bd el := by
      unfold wX_compute_53
      exact zx_cbc hb hi (by omega) (by omega) ex ey (hc i (by omega)).1 (hc i (by omega)).2 (hc p (by omega)).1 (hc p (by omega)).2 (hc q (by omega)).1 (hc q (by omega)).2 gp.1 gp.2 gq.1 gq.2 gi.1 gi.2 hp
    rcases ek with ek | ek
    · exact nm_r ek (br_f (by decide) (br_f (by decide) (br_f (by decide) (br_t rfl main))))
    · exact nm_r ek (br_f (by decide) (br_f (by decide) (br_f (by decide) (br_f (by decide) (br_t rfl main)))))
  · refine nm_r ek (br_f (by decide) (br_f (by decide) (br_f (by decide) (br_f (by decide) (br_f (by decide) (br_t rfl ?_))))))
    rw [ek, ex, ey, zq_f4 (by omega) (by omega)] at hp
    exact zx_cmm hb hi (by omega) (by omega) ex ey (hc i (by omega)).1 (hc i (by omega)).2 (hc p (by omega)).2 (hg p (by omega)).2 gi.1 gi.2 hp
  · refine nm_r ek (br_f (by decide) (br_f (by decide) (br_f (by decide) (br_f (by decide) (br_f (by decide) (br_f (by decide) (br_t rfl ?_)))))))
    by_cases h2 : rk p = 2
    · rw [ek, ex, zq_f5t (by omega) h2] at hp
      exact zx_ctr hb hi (by omega) ex (by rw [(hr i (by omega)).1, h3, h2]; rfl) (hc i (by omega)).1 (hc i (by omega)).2 gi.1 gi.2 hp
    · rw [ek, ex, zq_f5c (by omega) h2] at hp
      unfold wpX_computeTranspose
      dsimp only
      rw [nI_clamp (by omega)]
      refine ⟨vp_in_nI hi (by omega), br_f ?_ ?_⟩
      · rw [(hr i (by omega)).1]
        exact fun z => h2 (by rw [← h3]; exact (nI_eq (b := 2) (by have := (hr i (by omega)).2; omega) (by omega)).mp z)
      · exact zx_ccp hb hi (by omega) ex (hc i (by omega)).1 (hc i (by omega)).2 (by omega) hp
  · refine nm_r ek (br_f (by decide) (br_f (by decide) (br_f (by decide) (br_f (by decide) (br_f (by decide) (br_f (by decide) (br_f (by decide) (br_t rfl ?_))))))))
    rw [ek, ex, zq_f6 (by omega)] at hp
    exact zx_ccp hb hi (by omega) ex (hc i (by omega)).1 (hc i (by omega)).2 (by omega) hp
  · refine nm_r ek (br_f (by decide) (br_t (by decide) ?_))
    rw [ek, ex, zq_ru7 (by omega)] at hu
    have hu1 : 1 = R i := congrArg Prod.fst (Option.some.inj hu)
    have gp := hg p (by omega)
    rw [← hu1, Nat.one_mul] at hp
    refine zx_csu (F := zq_f (K i) (X i) (Y i) i dt rk R C) hb hi hpi ex (hr p (by omega)).2 (hr p (by omega)).1 (by rw [(hc i (by omega)).1, ← hu1]; rfl) (hc i (by omega)).2 (hc p (by omega)).1 (hc p (by omega)).2 gp.1 gp.2 gi.2 ?_ hp
    rw [ek, ex]
    by_cases z : rk p = 2 ∧ Y i = 0
    · rw [zq_f7c (by omega) z, if_pos z]
    · rw [zq_f7r (by omega) z, if_neg z]
end
end
section
/-! the reference: rankOf and addNode -/
section
variable {mx cnt st tp : Int32} {K X Y Z dt bd rq sr sd vr vd el : Nat → Int32}
theorem zy_srk {post : Int32 → Prop} {p q : Int32} (hp : post (nI (zq_sr p q))) : wpY_specRank post (mx, cnt, st, tp, K, X, Y, Z, dt, bd, rq, sr, sd, vr, vd, el) p q := by
  unfold wpY_specRank
  dsimp only
  unfold zq_sr at hp
  refine br_c (fun h => ?_) (fun h => br_c (fun h' => ?_) (fun h' => ?_))
  · rw [if_pos h] at hp
    exact hp
  · rw [if_neg h, if_pos h'] at hp
    exact hp
  · rw [if_neg h, if_neg h'] at hp
    exact hp
theorem zy_rank_l {post : Int32 → SY → Prop} {D c j : Nat} {rk : Nat → Nat} (hc : c ≤ 16) (hj : j < c) (hn : ∀ i, i < c → zq_nd D i rk (K i) (X i) (Y i) (Z i)) (hr : ∀ i, i < c → rk i ≤ 2) (hp : ∀ rq', post (nI (rk j)) (mx, cnt, st, tp, K, X, Y, Z, dt, bd, rq', sr, sd, vr, vd, el)) :
    ∀ d i fu : Nat, ∀ rq : Nat → Int32, i + d = j + 1 → d < fu → (∀ m, m < i → rq m = nI (rk m)) → wY_rankOf_16 post (nI j) mx cnt st tp fu (nI i) K X Y Z dt bd rq sr sd vr vd el := by
  intro d
  induction d with
  | zero =>
    intro i fu rq hi hf hI
    obtain ⟨f, rfl⟩ : ∃ f, fu = f + 1 := ⟨fu - 1, by omega⟩
    rw [wY_rankOf_16]
    refine br_t (nI_lt (by omega) (by omega)) ⟨vp_in_nI (by omega) (by omega), ?_⟩
    rw [nI_clamp (by omega), hI j (by omega)]
    exact hp rq
  | succ d ih =>
    intro i fu rq hi hf hI
    obtain ⟨f, rfl⟩ : ∃ f, fu = f + 1 := ⟨fu - 1, by omega⟩
    rw [wY_rankOf_16]
    dsimp only
    have vi : vp_in (nI i) 16 := vp_in_nI (by omega) (by omega)
    have step : ∀ w, w = nI (rk i) → wY_rankOf_16 post (nI j) mx cnt st tp f (nI (i + 1)) K X Y Z dt bd (upd rq i w) sr sd vr vd el := by
      intro w ew
      refine ih (i + 1) f (upd rq i w) (by omega) (by omega) (fun m hm => ?_)
      by_cases e : m = i
      · subst e
        rw [pk_us]
        exact ew
      · rw [pk_un e]
        exact hI m (by omega)
    refine br_f (nI_nlt (by omega) (by omega)) ⟨vi, ?_⟩
    rw [nI_clamp (n := i) (by omega)]
    have step2 : ∀ w, w = nI (rk i) → (vp_in (nI i) 16 ∧ ∀ rq', rq' = upd rq i w → ∀ x2, x2 = nI i + 1 → wY_rankOf_16 post (nI j) mx cnt st tp f x2 K X Y Z dt bd rq' sr sd vr vd el) := fun w ew => ⟨vi, nm_e (nm_r (nI_1 i) (step w ew))⟩
    rcases hn i (by omega) with ⟨ek, h2, h3⟩ | ⟨p, q, hpi, hqi, ex, ey, ek, h4⟩ | ⟨p, q, hpi, hqi, ex, ey, ek, h4, h5, h7⟩ | ⟨p, hpi, ex, ek, h3⟩ | ⟨p, hpi, ex, ek, h3, h4⟩ | ⟨p, s, hpi, ex, ek, h3, h4, h5⟩
    · refine nm_r ek (br_t rfl ⟨vi, vi, ?_⟩)
      exact zy_srk (step2 _ (by rw [h3]))
    · have main : wY_rankOf_99 post (wY_rankOf_16 post (nI j) mx cnt st tp f) (nI j) (nI i) mx cnt st tp K X Y Z dt bd rq sr sd vr vd el := by
        unfold wY_rankOf_99
        rw [nI_clamp (n := i) (by omega), ex, ey, nI_clamp (n := p) (by omega), nI_clamp (n := q) (by omega), hI p (by omega), hI q (by omega)]
        have vp : vp_in (nI p) 16 := vp_in_nI (by omega) (by omega)
        have vq : vp_in (nI q) 16 := vp_in_nI (by omega) (by omega)
        have rp := hr p (by omega)
        have rq := hr q (by omega)
        refine ⟨vi, vp, vi, vq, pk_le (rk p) (rk q) (fun e => ⟨vi, vq, step2 _ ?_⟩) (fun e => ⟨vi, vp, step2 _ ?_⟩)⟩
        · rw [h4]
          congr 1
          omega
        · rw [h4]
          congr 1
          omega
      rcases ek with ek | ek
      · exact nm_r ek (br_f (by decide) (br_f (by decide) (br_t rfl main)))
      · exact nm_r ek (br_f (by decide) (br_f (by decide) (br_f (by decide) (br_t rfl main))))
    · exact nm_r ek (br_f (by decide) (br_f (by decide) (br_f (by decide) (br_f (by decide) (br_t rfl (step2 _ (by rw [h7]; rfl)))))))
    · refine nm_r ek (br_f (by decide) (br_f (by decide) (br_f (by decide) (br_f (by decide) (br_f (by decide) (br_t rfl ?_))))))
      rw [ex, nI_clamp (n := p) (by omega)]
      exact ⟨vi, vp_in_nI (by omega) (by omega), step2 _ (by rw [hI p (by omega), h3])⟩
    · refine nm_r ek (br_f (by decide) (br_t rfl ⟨vi, vi, ?_⟩))
      exact zy_srk (step2 _ (by rw [h4]))
    · refine nm_r ek (br_f (by decide) (br_f (by decide) (br_f (by decide) (br_f (by decide) (br_f (by decide) (br_f (by decide) ?_))))))
      rw [ex, nI_clamp (n := p) (by omega)]
      exact ⟨vi, vp_in_nI (by omega) (by omega), step2 _ (by rw [hI p (by omega), ← h5, nI_pred])⟩
theorem zy_rank {post : Int32 → SY → Prop} {D c j : Nat} {rk : Nat → Nat} (hc : c ≤ 16) (hj : j < c) (hn : ∀ i, i < c → zq_nd D i rk (K i) (X i) (Y i) (Z i)) (hr : ∀ i, i < c → rk i ≤ 2) (hp : ∀ rq', post (nI (rk j)) (mx, nI c, st, tp, K, X, Y, Z, dt, bd, rq', sr, sd, vr, vd, el)) : wpY_rankOf post (mx, nI c, st, tp, K, X, Y, Z, dt, bd, rq, sr, sd, vr, vd, el) (nI j) := by
  unfold wpY_rankOf
  dsimp only
  exact br_f (nI_pos (by omega)) (br_t (nI_lt hj (by omega)) ⟨j + 2, zy_rank_l hc hj hn hr hp (j + 1) 0 (j + 2) rq (by omega) (by omega) (fun m hm => absurd hm (by omega))⟩)
theorem zy_vc {post : Int32 → Prop} {D : Nat} {x : Int32} (hD : D ≤ 6) (ok : zq_code D x → post 1) (no : ¬ zq_code D x → post 0) : wpY_validCode post (nI D, cnt, st, tp, K, X, Y, Z, dt, bd, rq, sr, sd, vr, vd, el) x := by
  have m13 : ¬ (∃ d, d < D ∧ x = nI (d + 1)) → wY_validCode_13 post x (nI D) cnt st tp K X Y Z dt bd rq sr sd vr vd el := by
    intro h
    unfold wY_validCode_13
    have hd : ∀ d, ¬ (1 ≤ d ∧ d ≤ D ∧ x = nI d) := fun d z => h ⟨d - 1, by omega, by rw [Nat.sub_add_cancel z.1]; exact z.2.2⟩
    refine br_c (fun h3 => no ?_) (fun h3 => br_c (fun h0 => no ?_) (fun h0 => ok ?_))
    · rintro (⟨d, z⟩ | rfl | rfl | rfl)
      · exact hd d z
      · exact absurd h3 (by decide)
      · exact absurd h3 (by decide)
      · exact absurd h3 (by decide)
    · rintro (⟨d, z⟩ | rfl | rfl | rfl)
      · exact hd d z
      · exact absurd h0 (by decide)
      · exact absurd h0 (by decide)
      · exact absurd h0 (by decide)
    · refine Or.inr (zq_neg (Int32.lt_of_le_of_lt (Int32.not_lt.mp h0) (by decide)) (Int32.not_lt.mp h3))
  unfold wpY_validCode
  dsimp only
  exact zq_sze (by omega) (fun d hd e => ok (Or.inl ⟨d + 1, by omega, by omega, e⟩)) m13
theorem zy_vs {post : Int32 → Prop} {D : Nat} {p q : Int32} (hD : D ≤ 6) (ok : zq_spec D p q → post 1) (no : ¬ zq_spec D p q → post 0) : wpY_specValid post (nI D, cnt, st, tp, K, X, Y, Z, dt, bd, rq, sr, sd, vr, vd, el) p q := by
  unfold wpY_specValid
  dsimp only
  refine br_c (fun hp => br_c (fun hq => ok (Or.inl ⟨hp, hq⟩)) (fun hq => no ?_)) (fun hp => br_c (fun hq => zy_vc hD (fun hc => ⟨rfl, ok (Or.inr (Or.inl ⟨hc, hq⟩))⟩) (fun hc => ⟨rfl, no ?_⟩)) (fun hq => zy_vc hD (fun hc => br_f (by decide) (zy_vc hD (fun hc' => br_f (by decide) (ok (Or.inr (Or.inr ⟨hc, hc'⟩)))) (fun hc' => br_t rfl (no ?_)))) (fun hc => br_t rfl (no ?_))))
  · rintro (⟨_, h⟩ | ⟨_, h⟩ | ⟨h, _⟩)
    · exact hq h
    · exact hq h
    · exact zq_code_ne hD h hp
  · rintro (⟨h, _⟩ | ⟨h, _⟩ | ⟨h, _⟩)
    · exact hp h
    · exact hc h
    · exact hc h
  · rintro (⟨h, _⟩ | ⟨_, h⟩ | ⟨_, h⟩)
    · exact hp h
    · exact hq h
    · exact hc' h
  · rintro (⟨h, _⟩ | ⟨h, _⟩ | ⟨h, _⟩)
    · exact hp h
    · exact hc h
    · exact hc h
theorem zq_k17 {k : Int32} (h1 : ¬ k < 1) (h7 : k ≤ 7) : k = 1 ∨ k = 2 ∨ k = 3 ∨ k = 4 ∨ k = 5 ∨ k = 6 ∨ k = 7 := by
  obtain ⟨d, hd, rfl⟩ := zq_ge1 h1
  have h : d + 1 ≤ 7 := (nI_leI (b := 7) hd (by omega)).mp h7
  have e : d = 0 ∨ d = 1 ∨ d = 2 ∨ d = 3 ∨ d = 4 ∨ d = 5 ∨ d = 6 := by omega
  rcases e with rfl | rfl | rfl | rfl | rfl | rfl | rfl <;> decide
theorem zy_fd {post : Int32 → SY → Prop} {c : Nat} (hc : c < 16) (dt0 : Nat → Int32) (hp : post (nI c) (mx, nI (c + 1), 0, tp, K, X, Y, Z, zq_fo (fun _ e => nI (e + 1)) (c * 36) dt0 36, bd, rq, sr, sd, vr, vd, el)) : ∀ d e fu : Nat, e + d = 36 → d < fu → wY_addNode_208 post mx (nI c) st tp fu (nI e) K X Y Z (zq_fo (fun _ e => nI (e + 1)) (c * 36) dt0 e) bd rq sr sd vr vd el := by
  intro d
  induction d with
  | zero =>
    intro e fu he hf
    obtain ⟨f, rfl⟩ : ∃ f, fu = f + 1 := ⟨fu - 1, by omega⟩
    have h36 : e = 36 := by omega
    subst h36
    rw [wY_addNode_208]
    refine br_t (Int32.le_refl _) ?_
    unfold wY_addNode_240
    refine nm_r (nI_1 c) ?_
    rw [nI_pred]
    exact hp
  | succ d ih =>
    intro e fu he hf
    obtain ⟨f, rfl⟩ : ∃ f, fu = f + 1 := ⟨fu - 1, by omega⟩
    rw [wY_addNode_208]
    dsimp only
    have ei : nI c * 36 + nI e = nI (c * 36 + e) := by rw [zq_m36, nI_add]
    refine br_f (nI_ge (b := 36) (by omega) (by decide)) ?_
    rw [ei, nI_clamp (by omega), nI_1]
    exact ⟨vp_in_nI (by omega) (by omega), nm_e (nm_e (ih (e + 1) f (by omega) (by omega)))⟩
theorem zy_add {post : Int32 → SY → Prop} {D c : Nat} {k x y z : Int32} {rk : Nat → Nat} (h6 : D ≤ 6) (hc : c ≤ 16) (hr : ∀ j, j < c → rk j ≤ 2) (hn : ∀ i, i < c → zq_nd D i rk (K i) (X i) (Y i) (Z i))
    (full : c = 16 → post (-1) (nI D, nI c, st, tp, K, X, Y, Z, dt, bd, rq, sr, sd, vr, vd, el)) (no : c < 16 → ¬ zq_vn D c rk k x y z → ∀ rq', post (-1) (nI D, nI c, st, tp, K, X, Y, Z, dt, bd, rq', sr, sd, vr, vd, el))
    (ok : c < 16 → zq_vn D c rk k x y z → ∀ rq' dt', dt' = (if k = 1 then zq_fo (fun _ e => nI (e + 1)) (c * 36) dt 36 else dt) →
      post (nI c) (nI D, nI (c + 1), 0, tp, upd K c k, upd X c x, upd Y c y, upd Z c z, dt', bd, rq', sr, sd, vr, vd, el)) :
    wpY_addNode post (nI D, nI c, st, tp, K, X, Y, Z, dt, bd, rq, sr, sd, vr, vd, el) k x y z := by
  have h159 : c < 16 → zq_vn D c rk k x y z → ∀ rq', wY_addNode_159 post k x y z (nI D) (nI c) st tp K X Y Z dt bd rq' sr sd vr vd el := by
    intro h hv rq'
    have vc : vp_in (nI c) 16 := vp_in_nI h (by omega)
    unfold wY_addNode_159
    rw [nI_clamp (by omega)]
    refine ⟨vc, nm_e ⟨vc, nm_e ⟨vc, nm_e ⟨vc, nm_e (br_c (fun hk => ?_) (fun hk => ?_))⟩⟩⟩⟩
    · exact ⟨37, zy_fd h dt (ok h hv rq' _ (if_pos hk).symm) 36 0 37 (by omega) (by omega)⟩
    · unfold wY_addNode_240
      refine nm_r (nI_1 c) ?_
      rw [nI_pred]
      exact ok h hv rq' _ (if_neg hk).symm
  unfold wpY_addNode
  dsimp only
  refine pk_lt c 16 (fun h => ?_) (fun h => full (by omega))
  have no := no h
  have h159 := h159 h
  refine br_c (fun h1 => no ?_ rq) (fun h1 => br_c (fun h7 => ?_) (fun h7 => no ?_ rq))
  · intro v
    rcases zq_vnk v with rfl | rfl | rfl | rfl | rfl | rfl | rfl <;> exact absurd h1 (by decide)
  · rcases zq_k17 h1 h7 with rfl | hk | hk | rfl | rfl | rfl | rfl
    · refine br_t (by decide) ?_
      unfold wY_addNode_43
      refine br_t (by decide) ?_
      unfold wY_addNode_67
      refine br_t rfl (zy_vs h6 (fun hs => br_f (by decide) ?_) (fun hs => br_t rfl (no (fun v => hs (zq_vn1 v)) rq)))
      unfold wY_addNode_83
      refine br_f (by decide) ?_
      unfold wY_addNode_101
      refine br_f (by decide) ?_
      unfold wY_addNode_134
      exact br_f (by decide) (h159 (Or.inl ⟨rfl, hs⟩) rq)
    · have hk' : k = 2 ∨ k = 3 := Or.inl hk
      subst hk
      refine br_f (by decide) (zq_ckl (by omega) (fun p hp ex => ?_) (fun hx => no (fun v => hx (zq_vn2 hk' v).1) rq))
      unfold wY_addNode_43
      refine br_f (by decide) (br_f (by decide) (zq_ckl (by omega) (fun q hq ey => ?_) (fun hx => no (fun v => hx (zq_vn2 hk' v).2) rq)))
      unfold wY_addNode_67
      refine br_f (by decide) ?_
      unfold wY_addNode_83
      refine br_f (by decide) ?_
      unfold wY_addNode_101
      refine br_f (by decide) ?_
      unfold wY_addNode_134
      exact br_f (by decide) (h159 (Or.inr (Or.inl ⟨p, q, hp, hq, ex, ey, hk'⟩)) rq)
    · have hk' : k = 2 ∨ k = 3 := Or.inr hk
      subst hk
      refine br_f (by decide) (zq_ckl (by omega) (fun p hp ex => ?_) (fun hx => no (fun v => hx (zq_vn2 hk' v).1) rq))
      unfold wY_addNode_43
      refine br_f (by decide) (br_f (by decide) (zq_ckl (by omega) (fun q hq ey => ?_) (fun hx => no (fun v => hx (zq_vn2 hk' v).2) rq)))
      unfold wY_addNode_67
      refine br_f (by decide) ?_
      unfold wY_addNode_83
      refine br_f (by decide) ?_
      unfold wY_addNode_101
      refine br_f (by decide) ?_
      unfold wY_addNode_134
      exact br_f (by decide) (h159 (Or.inr (Or.inl ⟨p, q, hp, hq, ex, ey, hk'⟩)) rq)
    · refine br_f (by decide) (zq_ckl (by omega) (fun p hp ex => ?_) (fun hx => no (fun v => ?_) rq))
      · unfold wY_addNode_43
        refine br_f (by decide) (br_f (by decide) (zq_ckl (by omega) (fun q hq ey => ?_) (fun hx => no (fun v => ?_) rq)))
        · subst ex ey
          unfold wY_addNode_67
          refine br_f (by decide) ?_
          unfold wY_addNode_83
          refine br_f (by decide) ?_
          unfold wY_addNode_101
          refine br_t rfl (zy_rank hc hp hn hr (fun rq1 => zy_rank hc hq hn hr (fun rq2 => ?_)))
          have rp := hr p hp
          have rq' := hr q hq
          refine pk_eq (rk p) 2 (fun e1 => pk_eq (rk q) 2 (fun e2 => ?_) (fun e2 => no (fun v => ?_) rq2)) (fun e1 => no (fun v => ?_) rq2)
          · unfold wY_addNode_134
            exact br_f (by decide) (h159 (Or.inr (Or.inr (Or.inl ⟨p, q, hp, hq, rfl, rfl, rfl, e1, e2⟩))) rq2)
          · obtain ⟨p', q', hp', hq', ep, eq, r1, r2⟩ := zq_vn4 v
            have := (nI_eq (by omega) (by omega)).mp eq
            subst this
            exact e2 r2
          · obtain ⟨p', q', hp', hq', ep, eq, r1, r2⟩ := zq_vn4 v
            have := (nI_eq (by omega) (by omega)).mp ep
            subst this
            exact e1 r1
        · obtain ⟨p', q', hp', hq', ep, eq, _⟩ := zq_vn4 v
          exact hx ⟨q', hq', eq⟩
      · obtain ⟨p', q', hp', hq', ep, eq, _⟩ := zq_vn4 v
        exact hx ⟨p', hp', ep⟩
    · refine br_f (by decide) (zq_ckl (by omega) (fun p hp ex => ?_) (fun hx => no (fun v => hx (zq_vn5 v)) rq))
      unfold wY_addNode_43
      refine br_f (by decide) (br_t (by decide) ?_)
      unfold wY_addNode_67
      refine br_f (by decide) ?_
      unfold wY_addNode_83
      refine br_f (by decide) ?_
      unfold wY_addNode_101
      refine br_f (by decide) ?_
      unfold wY_addNode_134
      exact br_f (by decide) (h159 (Or.inr (Or.inr (Or.inr (Or.inl ⟨p, hp, ex, rfl⟩)))) rq)
    · refine br_f (by decide) (zq_ckl (by omega) (fun p hp ex => ?_) (fun hx => no (fun v => hx (zq_vn6 v).1) rq))
      unfold wY_addNode_43
      refine br_f (by decide) (br_t (by decide) ?_)
      unfold wY_addNode_67
      refine br_f (by decide) ?_
      unfold wY_addNode_83
      refine br_t rfl (zy_vs h6 (fun hs => br_f (by decide) ?_) (fun hs => br_t rfl (no (fun v => hs (zq_vn6 v).2) rq)))
      unfold wY_addNode_101
      refine br_f (by decide) ?_
      unfold wY_addNode_134
      exact br_f (by decide) (h159 (Or.inr (Or.inr (Or.inr (Or.inr (Or.inl ⟨p, hp, ex, rfl, hs⟩))))) rq)
    · refine br_f (by decide) (zq_ckl (by omega) (fun p hp ex => ?_) (fun hx => no (fun v => ?_) rq))
      · unfold wY_addNode_43
        refine br_f (by decide) (br_t (by decide) ?_)
        unfold wY_addNode_67
        refine br_f (by decide) ?_
        unfold wY_addNode_83
        refine br_f (by decide) ?_
        unfold wY_addNode_101
        refine br_f (by decide) ?_
        unfold wY_addNode_134
        subst ex
        have rp := hr p hp
        refine br_t rfl (zy_rank hc hp hn hr (fun rq1 => zq_ckl (by omega) (fun s hs ey => ?_) (fun hx => no (fun v => ?_) rq1)))
        · exact h159 (Or.inr (Or.inr (Or.inr (Or.inr (Or.inr ⟨p, s, hp, rfl, rfl, ey, hs⟩))))) rq1
        · obtain ⟨p', s, hp', ep, ey, hs⟩ := zq_vn7 v
          have := (nI_eq (by omega) (by omega)).mp ep
          subst this
          exact hx ⟨s, hs, ey⟩
      · obtain ⟨p', s, hp', ep, ey, hs⟩ := zq_vn7 v
        exact hx ⟨p', hp', ep⟩
  · intro v
    rcases zq_vnk v with rfl | rfl | rfl | rfl | rfl | rfl | rfl <;> exact absurd (by decide) h7
end
end
section
/-! the reference: shapes -/
def zq_ag (rk R C : Nat → Nat) (t : Nat) (sr sd : Nat → Int32) : Prop := ∀ i, i < t → sr i = nI (rk i) ∧ sd (2 * i) = nI (zq_l0 (rk i) (R i) (C i)) ∧ sd (2 * i + 1) = nI (zq_l1 (rk i) (C i))
section
variable {mx cnt st tp : Int32} {K X Y Z dt bd rq sr sd vr vd el : Nat → Int32}
theorem zy_cv {post : Int32 → Prop} {D a b c : Nat} {x : Int32} (h6 : D ≤ 6) (hc : zq_code D x) (hp : post (nI (zq_cv x a b c))) : wpY_codeVal post (mx, cnt, st, tp, K, X, Y, Z, dt, bd, rq, sr, sd, vr, vd, el) x (nI a) (nI b) (nI c) := by
  unfold wpY_codeVal
  dsimp only
  rcases hc with ⟨d, h1, h2, rfl⟩ | rfl | rfl | rfl
  · rw [zq_cv_d h1 (by omega)] at hp
    exact br_f (nI_nle h1 (by omega)) hp
  · rw [zq_cv_1] at hp
    exact br_t (by decide) (br_t rfl hp)
  · rw [zq_cv_2] at hp
    exact br_t (by decide) (br_f (by decide) (br_t rfl hp))
  · rw [zq_cv_3] at hp
    exact br_t (by decide) (br_f (by decide) (br_f (by decide) hp))
theorem zy_spec {post : SY → Prop} {D i a b c : Nat} {p q : Int32} (h6 : D ≤ 6) (hi : i < 16) (hs : zq_spec D p q)
    (hp : ∀ sr' sd', (∀ j, j ≠ i → sr' j = sr j) → (∀ j, j ≠ 2 * i → j ≠ 2 * i + 1 → sd' j = sd j) → sr' i = nI (zq_sr p q) → sd' (2 * i) = nI (zq_l0 (zq_sr p q) (zq_sp p q a b c).1 (zq_sp p q a b c).2) → sd' (2 * i + 1) = nI (zq_l1 (zq_sr p q) (zq_sp p q a b c).2) → post (mx, cnt, st, tp, K, X, Y, Z, dt, bd, rq, sr', sd', vr, vd, el)) :
    wpY_setSpec post (mx, cnt, st, tp, K, X, Y, Z, dt, bd, rq, sr, sd, vr, vd, el) (nI i) p q (nI a) (nI b) (nI c) := by
  have v0 : vp_in (nI (2 * i)) 32 := vp_in_nI (by omega) (by omega)
  have v1 : vp_in (nI (2 * i + 1)) 32 := vp_in_nI (by omega) (by omega)
  have vi : vp_in (nI i) 16 := vp_in_nI (by omega) (by omega)
  unfold wpY_setSpec
  dsimp only
  rw [zq_2m, nI_1, nI_clamp (n := i) (by omega), nI_clamp (n := 2 * i) (by omega), nI_clamp (n := 2 * i + 1) (by omega)]
  refine ⟨v0, nm_e ⟨v1, nm_e ?_⟩⟩
  unfold zq_sr zq_sp at hp
  rcases hs with ⟨rfl, rfl⟩ | ⟨h, rfl⟩ | ⟨h, h'⟩
  · refine br_t rfl ⟨vi, nm_e (hp _ _ (fun j hj => pk_un hj) (fun j h1 h2 => by rw [pk_un h2, pk_un h1]) ?_ ?_ ?_)⟩
    · rw [if_pos rfl, pk_us]; rfl
    · rw [if_pos rfl, if_pos rfl, if_pos rfl, pk_un (by omega), pk_us]; rfl
    · rw [if_pos rfl, if_pos rfl, if_pos rfl, pk_us]; rfl
  · have hne := zq_code_ne h6 h
    refine br_f hne (zy_cv h6 h ⟨v0, nm_e (br_t rfl ⟨vi, nm_e (hp _ _ (fun j hj => pk_un hj) (fun j h1 h2 => by rw [pk_un h1, pk_un h2, pk_un h1]) ?_ ?_ ?_)⟩)⟩)
    · rw [if_neg hne, if_pos rfl, pk_us]; rfl
    · simp only [if_neg hne, if_pos, pk_us]
      rfl
    · simp only [if_neg hne, if_pos]
      rw [pk_un (by omega), pk_us]
      rfl
  · have hne := zq_code_ne h6 h
    have hne' := zq_code_ne h6 h'
    refine br_f hne (zy_cv h6 h ⟨v0, nm_e (br_f hne' (zy_cv h6 h' ⟨v1, nm_e ⟨vi, nm_e (hp _ _ (fun j hj => pk_un hj) (fun j h1 h2 => by rw [pk_un h2, pk_un h1, pk_un h2, pk_un h1]) ?_ ?_ ?_)⟩⟩))⟩)
    · rw [if_neg hne, if_neg hne', pk_us]; rfl
    · simp only [if_neg hne, if_neg hne']
      rw [pk_un (by omega), pk_us]
      rfl
    · simp only [if_neg hne, if_neg hne', pk_us]
      rfl
theorem zy_prod {post : Int32 → Prop} {D x r R C : Nat} (hx : x < 16) (hg : zq_good D r R C) (e : sr x = nI r) (e0 : sd (2 * x) = nI (zq_l0 r R C)) (e1 : sd (2 * x + 1) = nI (zq_l1 r C)) (hp : post (nI (R * C))) : wpY_prod post (mx, cnt, st, tp, K, X, Y, Z, dt, bd, rq, sr, sd, vr, vd, el) (nI x) := by
  have v0 : vp_in (nI (2 * x)) 32 := vp_in_nI (by omega) (by omega)
  have v1 : vp_in (nI (2 * x + 1)) 32 := vp_in_nI (by omega) (by omega)
  have vi : vp_in (nI x) 16 := vp_in_nI (by omega) (by omega)
  unfold zq_good at hg
  unfold wpY_prod
  dsimp only
  rw [zq_2m, nI_1, nI_clamp (n := x) (by omega), nI_clamp (n := 2 * x) (by omega), nI_clamp (n := 2 * x + 1) (by omega), e, e0, e1]
  unfold zq_l0 zq_l1
  refine ⟨vi, pk_eq r 0 (fun z => ?_) (fun z => ⟨vi, pk_eq r 1 (fun z1 => ⟨v0, ?_⟩) (fun z1 => ⟨v0, v1, ?_⟩)⟩)⟩
  · have eR : R = 1 := by omega
    have eC : C = 1 := by omega
    subst eR eC
    exact hp
  · have eR : R = 1 := by omega
    subst eR
    rw [if_neg (by omega)]
    rw [Nat.one_mul] at hp
    exact hp
  · rw [if_pos (by omega), if_pos (by omega), pk_mul]
    exact hp
theorem zy_dimR0 {post : Int32 → Prop} {D x r R C : Nat} (hx : x < 16) (hg : zq_good D r R C) (e : sr x = nI r) (e0 : sd (2 * x) = nI (zq_l0 r R C)) (e1 : sd (2 * x + 1) = nI (zq_l1 r C)) (hp : post (nI C)) : wpY_dimR post (mx, cnt, st, tp, K, X, Y, Z, dt, bd, rq, sr, sd, vr, vd, el) (nI x) 0 := by
  have v0 : vp_in (nI (2 * x)) 32 := vp_in_nI (by omega) (by omega)
  have v1 : vp_in (nI (2 * x + 1)) 32 := vp_in_nI (by omega) (by omega)
  have vi : vp_in (nI x) 16 := vp_in_nI (by omega) (by omega)
  unfold zq_good at hg
  unfold wpY_dimR
  dsimp only
  rw [zq_2m, nI_1, nI_clamp (n := x) (by omega), nI_clamp (n := 2 * x) (by omega), nI_clamp (n := 2 * x + 1) (by omega), e, e0, e1]
  unfold zq_l0 zq_l1
  refine ⟨vi, pk_lt 0 r (fun z => ⟨vi, pk_eq r 2 (fun z1 => br_t rfl ⟨v1, ?_⟩) (fun z1 => ⟨v0, ?_⟩)⟩) (fun z => ?_)⟩
  · rw [if_pos z1]
    exact hp
  · rw [if_neg z1]
    exact hp
  · have eC : C = 1 := by omega
    subst eC
    exact hp
theorem zy_dimR1 {post : Int32 → Prop} {D x r R C : Nat} (hx : x < 16) (hg : zq_good D r R C) (e : sr x = nI r) (e0 : sd (2 * x) = nI (zq_l0 r R C)) (e1 : sd (2 * x + 1) = nI (zq_l1 r C)) (hp : post (nI R)) : wpY_dimR post (mx, cnt, st, tp, K, X, Y, Z, dt, bd, rq, sr, sd, vr, vd, el) (nI x) 1 := by
  have v0 : vp_in (nI (2 * x)) 32 := vp_in_nI (by omega) (by omega)
  have v1 : vp_in (nI (2 * x + 1)) 32 := vp_in_nI (by omega) (by omega)
  have vi : vp_in (nI x) 16 := vp_in_nI (by omega) (by omega)
  unfold zq_good at hg
  unfold wpY_dimR
  dsimp only
  rw [zq_2m, nI_1, nI_clamp (n := x) (by omega), nI_clamp (n := 2 * x) (by omega), nI_clamp (n := 2 * x + 1) (by omega), e, e0, e1]
  unfold zq_l0 zq_l1
  refine ⟨vi, pk_lt 1 r (fun z => ⟨vi, pk_eq r 2 (fun z1 => br_f (by decide) ⟨v0, ?_⟩) (fun z1 => absurd z1 (by omega))⟩) (fun z => ?_)⟩
  · rw [if_pos z1]
    exact hp
  · have eR : R = 1 := by omega
    subst eR
    exact hp
/-- one turn of the broadcast loop's choice -/
theorem zy_bw {A T : Prop} {W : Int32 → Prop} {u v : Nat} (hu : u < 100) (hv : v < 100) (hA : (u = v ∨ u = 1 ∨ v = 1) → W (nI (if u = 1 then v else u))) (hT : ¬ (u = v ∨ u = 1 ∨ v = 1) → T) :
    (nI u = nI v → W (nI u)) ∧ (¬ nI u = nI v → ((nI u = 1 → W (nI v)) ∧ (¬ nI u = 1 → ((nI v = 1 → W (nI u)) ∧ (¬ nI v = 1 → T))))) := by
  refine pk_eq u v (fun e => ?_) (fun n1 => pk_eq u 1 (fun e => ?_) (fun n2 => pk_eq v 1 (fun e => ?_) (fun n3 => hT (by omega))))
  · have h := hA (Or.inl e)
    have e' : (if u = 1 then v else u) = u := by split <;> omega
    rw [e'] at h
    exact h
  · have h := hA (Or.inr (Or.inl e))
    rw [if_pos e] at h
    exact h
  · have h := hA (Or.inr (Or.inr e))
    rw [if_neg n2] at h
    exact h
theorem zy_body {post : Int32 → SY → Prop} {D c i f a0 a1 a2 : Nat} {rk R C : Nat → Nat} (h6 : D ≤ 6) (hc : c ≤ 16) (hi : i < c) (hn : zq_nd D i rk (K i) (X i) (Y i) (Z i)) (hr : ∀ j, j ≤ i → rk j ≤ 2)
    (hg : ∀ j, j < i → zq_good D (rk j) (R j) (C j)) (hsg : ∀ p q, zq_spec D p q → zq_good D (zq_sr p q) (zq_sp p q a0 a1 a2).1 (zq_sp p q a0 a1 a2).2) (hA : zq_ag rk R C i sr sd)
    (go : ∀ r s sr' sd', zq_ru (K i) (X i) (Y i) (Z i) a0 a1 a2 rk R C = some (r, s) → (∀ j, j ≠ i → sr' j = sr j) → (∀ j, j ≠ 2 * i → j ≠ 2 * i + 1 → sd' j = sd j) → sr' i = nI (rk i) → sd' (2 * i) = nI (zq_l0 (rk i) r s) → sd' (2 * i + 1) = nI (zq_l1 (rk i) s) →
      wY_shapes_3 post (nI a0) (nI a1) (nI a2) f (nI (i + 1)) mx (nI c) st tp K X Y Z dt bd rq sr' sd' vr vd el)
    (stop : ∀ sr' sd', zq_ru (K i) (X i) (Y i) (Z i) a0 a1 a2 rk R C = none → (∀ j, j ≠ i → sr' j = sr j) → (∀ j, j ≠ 2 * i → j ≠ 2 * i + 1 → sd' j = sd j) → post (nI i) (mx, nI c, st, tp, K, X, Y, Z, dt, bd, rq, sr', sd', vr, vd, el)) :
    wY_shapes_3 post (nI a0) (nI a1) (nI a2) (f + 1) (nI i) mx (nI c) st tp K X Y Z dt bd rq sr sd vr vd el := by
  have v0 : vp_in (nI (2 * i)) 32 := vp_in_nI (by omega) (by omega)
  have v1 : vp_in (nI (2 * i + 1)) 32 := vp_in_nI (by omega) (by omega)
  have vi : vp_in (nI i) 16 := vp_in_nI (by omega) (by omega)
  rw [wY_shapes_3]
  dsimp only
  rw [zq_2m i, nI_1 (2 * i), nI_clamp (n := i) (by omega), nI_clamp (n := 2 * i) (by omega), nI_clamp (n := 2 * i + 1) (by omega)]
  refine br_f (nI_ge hi (by omega)) ⟨vi, ?_⟩
  have fr0 : ∀ j, j ≠ 2 * i → j ≠ 2 * i + 1 → upd (upd sd (2 * i) 1) (2 * i + 1) 1 j = sd j := fun j h1 h2 => by rw [pk_un h2, pk_un h1]
  have s0 : upd (upd sd (2 * i) 1) (2 * i + 1) 1 (2 * i) = 1 := by rw [pk_un (by omega), pk_us]
  have s1 : upd (upd sd (2 * i) 1) (2 * i + 1) 1 (2 * i + 1) = 1 := pk_us
  generalize hsd1 : upd (upd sd (2 * i) 1) (2 * i + 1) 1 = sd1 at fr0 s0 s1
  have hA1 : zq_ag rk R C i sr sd1 := by
    intro j hj
    rw [fr0 _ (by omega) (by omega), fr0 _ (by omega) (by omega)]
    exact hA j hj
  have ri := hr i (by omega)
  rcases hn with ⟨ek, h2, h3⟩ | ⟨p, q, hp, hq, ex, ey, ek, h4⟩ | ⟨p, q, hp, hq, ex, ey, ek, h4, h5, h7⟩ | ⟨p, hp, ex, ek, h3⟩ | ⟨p, hp, ex, ek, h3, h4⟩ | ⟨p, s, hp, ex, ek, h3, h4, h5⟩
  · refine nm_r ek ⟨vi, nm_e ⟨vi, nm_e ⟨v0, nm_e ⟨v1, nm_r hsd1 (br_t rfl ?_)⟩⟩⟩⟩
    refine zy_spec (a := a0) (b := a1) (c := a2) h6 (by omega) h2 (fun sr' sd' f1 f2 q1 q2 q3 => nm_r (nI_1 i) ?_)
    refine go _ _ sr' sd' (by rw [ek]; exact zq_ru1) f1 (fun j j1 j2 => (f2 j j1 j2).trans (fr0 j j1 j2)) (by rw [h3]; exact q1) (by rw [h3]; exact q2) (by rw [h3]; exact q3)
  · have gp := hg p hp
    have gq := hg q hq
    have gp' := gp
    have gq' := gq
    unfold zq_good at gp' gq'
    have ap := hA1 p hp
    have aq := hA1 q hq
    rw [ex, ey, zq_ru2 (by omega) (by omega) ek] at go stop
    have m140 : ∀ x8, x8 = nI (rk i) → ∃ n140 : Nat, wY_shapes_140 post (wY_shapes_3 post (nI a0) (nI a1) (nI a2) f) (nI a0) (nI a1) (nI a2) (nI i) (nI p) (nI q) x8 mx (nI c) st tp K X Y Z dt bd rq sr sd1 vr vd el n140 1 1 0 := by
      intro x8 e8
      subst e8
      refine ⟨3, ?_⟩
      rw [wY_shapes_140]
      refine br_f (by decide) (zy_dimR0 (by omega) gp ap.1 ap.2.1 ap.2.2 (zy_dimR0 (by omega) gq aq.1 aq.2.1 aq.2.2 ?_))
      refine zy_bw (A := True) (W := fun w => wY_shapes_209 post (wY_shapes_3 post (nI a0) (nI a1) (nI a2) f) (wY_shapes_140 post (wY_shapes_3 post (nI a0) (nI a1) (nI a2) f) (nI a0) (nI a1) (nI a2) (nI i) (nI p) (nI q) (nI (rk i)) mx (nI c) st tp K X Y Z dt bd rq sr sd1 vr vd el 2) (nI a0) (nI a1) (nI a2) (nI i) (nI p) (nI q) (nI (rk i)) 1 1 0 w mx (nI c) st tp K X Y Z dt bd rq sr sd1 vr vd el) (by omega) (by omega) (fun hC => ?_) (fun hC => stop sr sd1 (if_neg (fun w => hC w.2)) (fun _ _ => rfl) fr0)
      unfold wY_shapes_209
      refine br_t rfl (nm_e ?_)
      rw [wY_shapes_140]
      refine br_f (by decide) (zy_dimR1 (by omega) gp ap.1 ap.2.1 ap.2.2 (zy_dimR1 (by omega) gq aq.1 aq.2.1 aq.2.2 ?_))
      refine zy_bw (A := True) (W := fun w => wY_shapes_209 post (wY_shapes_3 post (nI a0) (nI a1) (nI a2) f) (wY_shapes_140 post (wY_shapes_3 post (nI a0) (nI a1) (nI a2) f) (nI a0) (nI a1) (nI a2) (nI i) (nI p) (nI q) (nI (rk i)) mx (nI c) st tp K X Y Z dt bd rq sr sd1 vr vd el 1) (nI a0) (nI a1) (nI a2) (nI i) (nI p) (nI q) (nI (rk i)) (nI (if C p = 1 then C q else C p)) 1 (0 + 1) w mx (nI c) st tp K X Y Z dt bd rq sr sd1 vr vd el) (by omega) (by omega) (fun hR => ?_) (fun hR => stop sr sd1 (if_neg (fun w => hR w.1)) (fun _ _ => rfl) fr0)
      unfold wY_shapes_209
      refine br_f (by decide) (nm_e ?_)
      rw [wY_shapes_140]
      refine br_t (by decide) ⟨vi, nm_e ?_⟩
      rw [zq_2m i, nI_1 (2 * i), nI_clamp (n := i) (by omega), nI_clamp (n := 2 * i) (by omega), nI_clamp (n := 2 * i + 1) (by omega)]
      have go := fun sr' sd' => go _ _ sr' sd' (if_pos ⟨hR, hC⟩)
      refine pk_eq (rk i) 2 (fun z => ⟨v0, nm_e ⟨v1, nm_e (nm_r (nI_1 i) ?_)⟩⟩) (fun z => pk_eq (rk i) 1 (fun z1 => ⟨v0, nm_e (nm_r (nI_1 i) ?_)⟩) (fun z1 => nm_r (nI_1 i) ?_))
      · refine go _ _ (fun j hj => pk_un hj) (fun j j1 j2 => by rw [pk_un j2, pk_un j1]; exact fr0 j j1 j2) pk_us ?_ ?_
        · rw [pk_un (by omega), pk_us]
          unfold zq_l0
          rw [if_pos z]
        · rw [pk_us]
          unfold zq_l1
          rw [if_pos z]
      · refine go _ _ (fun j hj => pk_un hj) (fun j j1 j2 => by rw [pk_un j1]; exact fr0 j j1 j2) pk_us ?_ ?_
        · rw [pk_us]
          unfold zq_l0
          rw [if_neg z]
        · rw [pk_un (by omega), s1]
          unfold zq_l1
          rw [if_neg z]
          rfl
      · refine go _ _ (fun j hj => pk_un hj) fr0 pk_us ?_ ?_
        · rw [s0]
          unfold zq_l0
          rw [if_neg z]
          have e : (if C p = 1 then C q else C p) = 1 := by split <;> omega
          rw [e]
          rfl
        · rw [s1]
          unfold zq_l1
          rw [if_neg z]
          rfl
    have main : wY_shapes_95 post (wY_shapes_3 post (nI a0) (nI a1) (nI a2) f) (nI a0) (nI a1) (nI a2) (nI i) (nI p) (nI q) mx (nI c) st tp K X Y Z dt bd rq sr sd1 vr vd el := by
      unfold wY_shapes_95
      rw [nI_clamp (n := p) (by omega), nI_clamp (n := q) (by omega), ap.1, aq.1]
      have vp : vp_in (nI p) 16 := vp_in_nI (by omega) (by omega)
      have vq : vp_in (nI q) 16 := vp_in_nI (by omega) (by omega)
      refine ⟨vp, vq, pk_le (rk p) (rk q) (fun e => ⟨vq, fun x8 e8 => m140 x8 ?_⟩) (fun e => ⟨vp, fun x8 e8 => m140 x8 ?_⟩)⟩
      · rw [e8, h4]
        congr 1
        omega
      · rw [e8, h4]
        congr 1
        omega
    rcases ek with ek | ek
    · exact nm_r ek ⟨vi, nm_r ex ⟨vi, nm_r ey ⟨v0, nm_e ⟨v1, nm_r hsd1 (br_f (by decide) (br_t rfl main))⟩⟩⟩⟩
    · exact nm_r ek ⟨vi, nm_r ex ⟨vi, nm_r ey ⟨v0, nm_e ⟨v1, nm_r hsd1 (br_f (by decide) (br_f (by decide) (br_t rfl main)))⟩⟩⟩⟩
  · have ap := hA1 p hp
    have aq := hA1 q hq
    have gp := hg p hp
    have gq := hg q hq
    unfold zq_good at gp gq
    rw [ek, ex, ey, zq_ru4 (by omega) (by omega)] at go stop
    rw [h4] at ap
    rw [h5] at aq
    have l0 : ∀ R C, zq_l0 2 R C = R := fun R C => if_pos rfl
    have l1 : ∀ C, zq_l1 2 C = C := fun C => if_pos rfl
    rw [l0, l1] at ap aq
    have w0 : vp_in (nI (2 * p)) 32 := vp_in_nI (by omega) (by omega)
    have w1 : vp_in (nI (2 * p + 1)) 32 := vp_in_nI (by omega) (by omega)
    have x0 : vp_in (nI (2 * q)) 32 := vp_in_nI (by omega) (by omega)
    have x1 : vp_in (nI (2 * q + 1)) 32 := vp_in_nI (by omega) (by omega)
    refine nm_r ek ⟨vi, nm_r ex ⟨vi, nm_r ey ⟨v0, nm_e ⟨v1, nm_r hsd1 (br_f (by decide) (br_f (by decide) (br_f (by decide) (br_t rfl ?_))))⟩⟩⟩⟩
    rw [zq_2m p, zq_2m q, nI_1 (2 * p), nI_1 (2 * q), nI_clamp (n := 2 * p) (by omega), nI_clamp (n := 2 * p + 1) (by omega), nI_clamp (n := 2 * q) (by omega), nI_clamp (n := 2 * q + 1) (by omega), ap.2.1, ap.2.2, aq.2.1]
    refine ⟨w1, x0, pk_eq (C p) (R q) (fun z => ⟨vi, nm_e ⟨w0, v0, nm_e ⟨x1, v1, nm_e (nm_r (nI_1 i) ?_)⟩⟩⟩) (fun z => stop sr sd1 (if_neg z) (fun _ _ => rfl) fr0)⟩
    refine go _ _ _ _ (if_pos z) (fun j hj => pk_un hj) (fun j j1 j2 => by rw [pk_un j2, pk_un j1]; exact fr0 j j1 j2) (by rw [pk_us, h7]; rfl) ?_ ?_
    · rw [pk_un (by omega), pk_us, h7, l0]
    · rw [pk_us, pk_un (by omega), aq.2.2, h7, l1]
  · have ap := hA1 p hp
    have gp := hg p hp
    unfold zq_good at gp
    rw [ek, ex, zq_ru5 (by omega)] at go
    have w0 : vp_in (nI (2 * p)) 32 := vp_in_nI (by omega) (by omega)
    have w1 : vp_in (nI (2 * p + 1)) 32 := vp_in_nI (by omega) (by omega)
    have vp : vp_in (nI p) 16 := vp_in_nI (by omega) (by omega)
    refine nm_r ek ⟨vi, nm_r ex ⟨vi, nm_e ⟨v0, nm_e ⟨v1, nm_r hsd1 (br_f (by decide) (br_f (by decide) (br_f (by decide) (br_f (by decide) (br_t rfl ?_)))))⟩⟩⟩⟩
    rw [zq_2m p, nI_1 (2 * p), nI_clamp (n := p) (by omega), nI_clamp (n := 2 * p) (by omega), nI_clamp (n := 2 * p + 1) (by omega), ap.1]
    refine ⟨vp, vi, nm_e ⟨vp, ?_⟩⟩
    rw [pk_un (f := sr) (show p ≠ i by omega), ap.1, ap.2.1, ap.2.2]
    refine pk_eq (rk p) 2 (fun z => ⟨w1, v0, nm_e ⟨w0, v1, nm_e (nm_r (nI_1 i) ?_)⟩⟩) (fun z => ⟨w0, v0, nm_e (nm_r (nI_1 i) ?_)⟩)
    · refine go _ _ _ _ (by rw [if_pos z]) (fun j hj => pk_un hj) (fun j j1 j2 => by rw [pk_un j2, pk_un j1]; exact fr0 j j1 j2) (by rw [pk_us, h3]) ?_ ?_
      · rw [pk_un (by omega), pk_us, h3]
        unfold zq_l0 zq_l1
        rw [if_pos z, if_pos z]
      · rw [pk_us, pk_un (by omega), ap.2.1, h3]
        unfold zq_l0 zq_l1
        rw [if_pos z, if_pos z]
    · refine go _ _ _ _ (by rw [if_neg z]) (fun j hj => pk_un hj) (fun j j1 j2 => by rw [pk_un j1]; exact fr0 j j1 j2) (by rw [pk_us, h3]) ?_ ?_
      · rw [pk_us, h3]
      · rw [pk_un (by omega), s1, h3]
        unfold zq_l1
        rw [if_neg z]
        rfl
  · have ap := hA1 p hp
    have gp := hg p hp
    rw [ek, ex, zq_ru6 (by omega)] at go stop
    refine nm_r ek ⟨vi, nm_r ex ⟨vi, nm_e ⟨v0, nm_e ⟨v1, nm_r hsd1 (br_f (by decide) (br_f (by decide) (br_f (by decide) (br_f (by decide) (br_f (by decide) (br_t rfl ⟨vi, ?_⟩))))))⟩⟩⟩⟩
    refine zy_spec (a := a0) (b := a1) (c := a2) h6 (by omega) h3 (fun sr' sd' f1 f2 q1 q2 q3 => ?_)
    have gi := hsg _ _ h3
    have gi' := gi
    have gp' := gp
    unfold zq_good at gi' gp'
    have g1 : R p * C p ≤ 6 * 6 := Nat.mul_le_mul (by omega) (by omega)
    have g2 : (zq_sp (Y i) (Z i) a0 a1 a2).1 * (zq_sp (Y i) (Z i) a0 a1 a2).2 ≤ 6 * 6 := Nat.mul_le_mul (by omega) (by omega)
    refine zy_prod (by omega) gi q1 q2 q3 (zy_prod (by omega) gp ((f1 p (by omega)).trans ap.1) ((f2 _ (by omega) (by omega)).trans ap.2.1) ((f2 _ (by omega) (by omega)).trans ap.2.2) ?_)
    refine pk_eq _ _ (fun z => nm_r (nI_1 i) ?_) (fun z => ?_) rfl rfl (by omega) (by omega)
    · refine go _ _ sr' sd' (if_pos z) f1 (fun j j1 j2 => (f2 j j1 j2).trans (fr0 j j1 j2)) (by rw [h4]; exact q1) (by rw [h4]; exact q2) (by rw [h4]; exact q3)
    · exact stop sr' sd' (if_neg z) f1 (fun j j1 j2 => (f2 j j1 j2).trans (fr0 j j1 j2))
  · have ap := hA1 p hp
    have gp := hg p hp
    unfold zq_good at gp
    rw [ek, ex, zq_ru7 (by omega)] at go
    have w0 : vp_in (nI (2 * p)) 32 := vp_in_nI (by omega) (by omega)
    have w1 : vp_in (nI (2 * p + 1)) 32 := vp_in_nI (by omega) (by omega)
    have vp : vp_in (nI p) 16 := vp_in_nI (by omega) (by omega)
    refine nm_r ek ⟨vi, nm_r ex ⟨vi, nm_e ⟨v0, nm_e ⟨v1, nm_r hsd1 (br_f (by decide) (br_f (by decide) (br_f (by decide) (br_f (by decide) (br_f (by decide) (br_f (by decide) ⟨vp, ?_⟩))))))⟩⟩⟩⟩
    rw [zq_2m p, nI_1 (2 * p), nI_clamp (n := p) (by omega), nI_clamp (n := 2 * p) (by omega), nI_clamp (n := 2 * p + 1) (by omega), ap.1, ap.2.1, ap.2.2]
    refine pk_eq (rk p) 1 (fun z => ⟨vi, nm_e (nm_r (nI_1 i) ?_)⟩) (fun z => ⟨vi, nm_e (br_c (fun zy => ⟨w1, v0, nm_e (nm_r (nI_1 i) ?_)⟩) (fun zy => ⟨w0, v0, nm_e (nm_r (nI_1 i) ?_)⟩))⟩)
    · have e0 : rk i = 0 := by omega
      refine go _ _ _ _ rfl (fun j hj => pk_un hj) fr0 (by rw [pk_us, e0]; rfl) ?_ ?_
      · rw [s0, if_neg (by omega), e0]
        unfold zq_l0
        rw [if_neg (by omega), show R p = 1 by omega]
        rfl
      · rw [s1, e0]
        rfl
    · have e0 : rk i = 1 := by omega
      have e2 : rk p = 2 := by omega
      refine go _ _ _ _ rfl (fun j hj => pk_un hj) (fun j j1 j2 => by rw [pk_un j1]; exact fr0 j j1 j2) (by rw [pk_us, e0]; rfl) ?_ ?_
      · rw [pk_us, if_pos ⟨e2, zy⟩, e0, e2]
        rfl
      · rw [pk_un (by omega), s1, e0]
        rfl
    · have e0 : rk i = 1 := by omega
      have e2 : rk p = 2 := by omega
      refine go _ _ _ _ rfl (fun j hj => pk_un hj) (fun j j1 j2 => by rw [pk_un j1]; exact fr0 j j1 j2) (by rw [pk_us, e0]; rfl) ?_ ?_
      · rw [pk_us, if_neg (fun w => zy w.2), e0, e2]
        rfl
      · rw [pk_un (by omega), s1, e0]
        rfl
theorem zy_shapes_l {post : Int32 → SY → Prop} {D c t a0 a1 a2 : Nat} {rk R C : Nat → Nat} (h6 : D ≤ 6) (hc : c ≤ 16) (hn : ∀ i, i < c → zq_nd D i rk (K i) (X i) (Y i) (Z i)) (hr : ∀ j, j < c → rk j ≤ 2)
    (hsg : ∀ p q, zq_spec D p q → zq_good D (zq_sr p q) (zq_sp p q a0 a1 a2).1 (zq_sp p q a0 a1 a2).2) (hs : zq_sh D c K X Y Z rk a0 a1 a2 t R C)
    (hp : ∀ sr' sd', zq_ag rk R C t sr' sd' → post (nI t) (mx, nI c, st, tp, K, X, Y, Z, dt, bd, rq, sr', sd', vr, vd, el)) :
    ∀ d i fu : Nat, ∀ sr sd : Nat → Int32, i + d = t → d < fu → zq_ag rk R C i sr sd → wY_shapes_3 post (nI a0) (nI a1) (nI a2) fu (nI i) mx (nI c) st tp K X Y Z dt bd rq sr sd vr vd el := by
  obtain ⟨s1, s2, s3⟩ := hs
  intro d
  induction d with
  | zero =>
    intro i fu sr sd hi hf hA
    obtain ⟨f, rfl⟩ : ∃ f, fu = f + 1 := ⟨fu - 1, by omega⟩
    have e : i = t := by omega
    subst e
    by_cases htc : i = c
    · subst htc
      rw [wY_shapes_3]
      exact br_t (Int32.le_refl _) (hp sr sd hA)
    · have hlt : i < c := by omega
      have hnone := s3 hlt
      refine zy_body h6 hc hlt (hn i hlt) (fun j hj => hr j (by omega)) (fun j hj => (s2 j hj).1) hsg hA ?_ ?_
      · intro r s sr' sd' e
        rw [hnone] at e
        cases e
      · intro sr' sd' _ f1 f2
        refine hp sr' sd' (fun j hj => ?_)
        rw [f1 j (by omega), f2 _ (by omega) (by omega), f2 _ (by omega) (by omega)]
        exact hA j hj
  | succ d ih =>
    intro i fu sr sd hi hf hA
    obtain ⟨f, rfl⟩ : ∃ f, fu = f + 1 := ⟨fu - 1, by omega⟩
    have hlt : i < c := by omega
    have hsome := (s2 i (by omega)).2
    refine zy_body h6 hc hlt (hn i hlt) (fun j hj => hr j (by omega)) (fun j hj => (s2 j (by omega)).1) hsg hA ?_ ?_
    · intro r s sr' sd' e f1 f2 q1 q2 q3
      rw [hsome] at e
      cases e
      refine ih (i + 1) f sr' sd' (by omega) (by omega) (fun j hj => ?_)
      by_cases hji : j = i
      · subst hji
        exact ⟨q1, q2, q3⟩
      · rw [f1 j hji, f2 _ (by omega) (by omega), f2 _ (by omega) (by omega)]
        exact hA j (by omega)
    · intro sr' sd' e
      rw [hsome] at e
      cases e
theorem zy_shapes {post : Int32 → SY → Prop} {D c t a0 a1 a2 : Nat} {rk R C : Nat → Nat} (h6 : D ≤ 6) (hc : c ≤ 16) (hn : ∀ i, i < c → zq_nd D i rk (K i) (X i) (Y i) (Z i)) (hr : ∀ j, j < c → rk j ≤ 2)
    (hsg : ∀ p q, zq_spec D p q → zq_good D (zq_sr p q) (zq_sp p q a0 a1 a2).1 (zq_sp p q a0 a1 a2).2) (hs : zq_sh D c K X Y Z rk a0 a1 a2 t R C)
    (hp : ∀ sr' sd', zq_ag rk R C t sr' sd' → post (nI t) (mx, nI c, st, tp, K, X, Y, Z, dt, bd, rq, sr', sd', vr, vd, el)) : wpY_shapes post (mx, nI c, st, tp, K, X, Y, Z, dt, bd, rq, sr, sd, vr, vd, el) (nI a0) (nI a1) (nI a2) := by
  unfold wpY_shapes
  dsimp only
  exact ⟨t + 1, zy_shapes_l h6 hc hn hr hsg hs hp t 0 (t + 1) sr sd (by omega) (by omega) (fun i hi => absurd hi (by omega))⟩
end
end
section
/-! the reference: evalNode -/
section
variable {mx cnt st tp : Int32} {K X Y Z dt bd rq sr sd vr vd el : Nat → Int32}
theorem zy_ein {post : SY → Prop} {i n : Nat} (hi : i < 16) (hn : n ≤ 36) (hp : post (mx, cnt, st, tp, K, X, Y, Z, dt, bd, rq, sr, sd, vr, vd, zq_fo (zq_fin dt (i * 36)) (i * 36) el n)) : ∀ d e fu : Nat, e + d = n → d < fu → wY_evalNode_43 post (nI n) (nI (i * 36)) mx cnt st tp fu (nI e) K X Y Z dt bd rq sr sd vr vd (zq_fo (zq_fin dt (i * 36)) (i * 36) el e) := by
  intro d
  induction d with
  | zero =>
    intro e fu he hf
    obtain ⟨f, rfl⟩ : ∃ f, fu = f + 1 := ⟨fu - 1, by omega⟩
    have e1 : e = n := by omega
    subst e1
    rw [wY_evalNode_43]
    exact br_t (Int32.le_refl _) hp
  | succ d ih =>
    intro e fu he hf
    obtain ⟨f, rfl⟩ : ∃ f, fu = f + 1 := ⟨fu - 1, by omega⟩
    rw [wY_evalNode_43]
    dsimp only
    rw [nI_add, nI_clamp (by omega)]
    exact br_f (nI_ge (by omega) (by omega)) ⟨vp_in_nI (by omega) (by omega), vp_in_nI (by omega) (by omega), nm_e (nm_r (nI_1 e) (ih (e + 1) f (by omega) (by omega)))⟩
theorem zy_ecp {post : SY → Prop} {i p n : Nat} (hi : i < 16) (hpi : p < 16) (hn : n ≤ 36) (hp : post (mx, cnt, st, tp, K, X, Y, Z, dt, bd, rq, sr, sd, vr, vd, zq_fo (zq_fcp p) (i * 36) el n)) : ∀ d e fu : Nat, e + d = n → d < fu → wY_evalNode_101 post (nI p) (nI n) (nI (i * 36)) mx cnt st tp fu (nI e) K X Y Z dt bd rq sr sd vr vd (zq_fo (zq_fcp p) (i * 36) el e) := by
  intro d
  induction d with
  | zero =>
    intro e fu he hf
    obtain ⟨f, rfl⟩ : ∃ f, fu = f + 1 := ⟨fu - 1, by omega⟩
    have e1 : e = n := by omega
    subst e1
    rw [wY_evalNode_101]
    exact br_t (Int32.le_refl _) hp
  | succ d ih =>
    intro e fu he hf
    obtain ⟨f, rfl⟩ : ∃ f, fu = f + 1 := ⟨fu - 1, by omega⟩
    rw [wY_evalNode_101]
    dsimp only
    rw [zq_m36, nI_add (p * 36) e, nI_add (i * 36) e, nI_clamp (n := p * 36 + e) (by omega), nI_clamp (n := i * 36 + e) (by omega)]
    exact br_f (nI_ge (by omega) (by omega)) ⟨vp_in_nI (by omega) (by omega), vp_in_nI (by omega) (by omega), nm_e (nm_r (nI_1 e) (ih (e + 1) f (by omega) (by omega)))⟩
theorem zy_opi {post : Int32 → Prop} {D x r R C a c : Nat} (h6 : D ≤ 6) (hx : x < 16) (hg : zq_good D r R C) (e : sr x = nI r) (e0 : sd (2 * x) = nI (zq_l0 r R C)) (e1 : sd (2 * x + 1) = nI (zq_l1 r C)) (hp : post (nI (zq_bi R C a c))) : wpY_opIndex post (mx, cnt, st, tp, K, X, Y, Z, dt, bd, rq, sr, sd, vr, vd, el) (nI x) (nI c) (nI a) := by
  have v0 : vp_in (nI (2 * x)) 32 := vp_in_nI (by omega) (by omega)
  have v1 : vp_in (nI (2 * x + 1)) 32 := vp_in_nI (by omega) (by omega)
  have vi : vp_in (nI x) 16 := vp_in_nI (by omega) (by omega)
  unfold zq_good at hg
  unfold wpY_opIndex
  dsimp only
  rw [zq_2m, nI_clamp (n := x) (by omega), nI_clamp (n := 2 * x) (by omega), e, e0]
  unfold zq_l1 at e1
  unfold zq_l0
  unfold zq_bi at hp
  refine ⟨vi, pk_eq r 2 (fun z => ⟨v0, ?_⟩) (fun z => ⟨vi, pk_eq r 1 (fun z1 => ⟨v0, ?_⟩) (fun z1 => ?_)⟩)⟩
  · rw [if_pos z] at e1 ⊢
    have l48 : ∀ a c : Nat, post (nI (a * C + c)) → wY_opIndex_48 post (nI x) (nI a) (nI c) mx cnt st tp K X Y Z dt bd rq sr sd vr vd el := by
      intro a c hh
      unfold wY_opIndex_48
      rw [zq_2m, nI_1, nI_clamp (n := 2 * x + 1) (by omega), e1, pk_mul, nI_add]
      exact ⟨v1, hh⟩
    have l27 : ∀ a : Nat, post (nI (a * C + (if C = 1 then 0 else c))) → wY_opIndex_27 post (nI x) (nI c) (nI a) mx cnt st tp K X Y Z dt bd rq sr sd vr vd el := by
      intro a hh
      unfold wY_opIndex_27
      rw [zq_2m, nI_1, nI_clamp (n := 2 * x + 1) (by omega), e1]
      refine ⟨v1, pk_eq C 1 (fun z2 => ?_) (fun z2 => ?_)⟩
      · rw [if_pos z2] at hh
        exact l48 a 0 hh
      · rw [if_neg z2] at hh
        exact l48 a c hh
    refine pk_eq R 1 (fun z2 => ?_) (fun z2 => ?_)
    · rw [if_pos z2] at hp
      exact l27 0 hp
    · rw [if_neg z2] at hp
      exact l27 a hp
  · rw [if_neg z]
    rw [if_pos (show R = 1 by omega), Nat.zero_mul, Nat.zero_add] at hp
    refine pk_eq C 1 (fun z2 => ?_) (fun z2 => ?_)
    · rw [if_pos z2] at hp
      exact hp
    · rw [if_neg z2] at hp
      exact hp
  · rw [if_pos (show R = 1 by omega), Nat.zero_mul, Nat.zero_add, if_pos (show C = 1 by omega)] at hp
    exact hp
theorem zy_ebc {post : SY → Prop} {D i p q : Nat} {k : Int32} {rk R C : Nat → Nat} (h6 : D ≤ 6) (hi : i < 16) (hp : p < 16) (hq : q < 16)
    (gi : zq_good D (rk i) (R i) (C i)) (gp : zq_good D (rk p) (R p) (C p)) (gq : zq_good D (rk q) (R q) (C q))
    (ai : sr i = nI (rk i) ∧ sd (2 * i) = nI (zq_l0 (rk i) (R i) (C i)) ∧ sd (2 * i + 1) = nI (zq_l1 (rk i) (C i)))
    (ap : sr p = nI (rk p) ∧ sd (2 * p) = nI (zq_l0 (rk p) (R p) (C p)) ∧ sd (2 * p + 1) = nI (zq_l1 (rk p) (C p)))
    (aq : sr q = nI (rk q) ∧ sd (2 * q) = nI (zq_l0 (rk q) (R q) (C q)) ∧ sd (2 * q + 1) = nI (zq_l1 (rk q) (C q)))
    (h : post (mx, cnt, st, tp, K, X, Y, Z, dt, bd, rq, sr, sd, vr, vd, zq_fo (zq_fbc k p q (R p) (C p) (R q) (C q) (C i)) (i * 36) el (R i * C i))) :
    ∀ d e fu : Nat, e + d = R i * C i → d < fu → wY_evalNode_150 post (nI i) k (nI p) (nI q) (nI (R i * C i)) (nI (i * 36)) mx cnt st tp fu (nI e) K X Y Z dt bd rq sr sd vr vd (zq_fo (zq_fbc k p q (R p) (C p) (R q) (C q) (C i)) (i * 36) el e) := by
  have gi' := gi
  have gp' := gp
  have gq' := gq
  unfold zq_good at gi' gp' gq'
  have hRC : R i * C i ≤ 6 * 6 := Nat.mul_le_mul (by omega) (by omega)
  intro d
  induction d with
  | zero =>
    intro e fu he hf
    obtain ⟨f, rfl⟩ : ∃ f, fu = f + 1 := ⟨fu - 1, by omega⟩
    have e1 : e = R i * C i := by omega
    subst e1
    rw [wY_evalNode_150]
    exact br_t (Int32.le_refl _) h
  | succ d ih =>
    intro e fu he hf
    obtain ⟨f, rfl⟩ : ∃ f, fu = f + 1 := ⟨fu - 1, by omega⟩
    have hI := ih (e + 1) f (by omega) (by omega)
    have es : zq_fo (zq_fbc k p q (R p) (C p) (R q) (C q) (C i)) (i * 36) el (e + 1) = upd (zq_fo (zq_fbc k p q (R p) (C p) (R q) (C q) (C i)) (i * 36) el e) (i * 36 + e) (zq_op k ((zq_fo (zq_fbc k p q (R p) (C p) (R q) (C q) (C i)) (i * 36) el e) (p * 36 + zq_bi (R p) (C p) (e / C i) (e % C i))) ((zq_fo (zq_fbc k p q (R p) (C p) (R q) (C q) (C i)) (i * 36) el e) (q * 36 + zq_bi (R q) (C q) (e / C i) (e % C i)))) := rfl
    rw [es] at hI
    generalize zq_fo (zq_fbc k p q (R p) (C p) (R q) (C q) (C i)) (i * 36) el e = w at hI ⊢
    have hdiv : e / C i < 6 := Nat.lt_of_lt_of_le ((Nat.div_lt_iff_lt_mul (by omega)).mpr (by omega)) (show R i ≤ 6 by omega)
    have hmod : e % C i < 6 := Nat.lt_of_lt_of_le (Nat.mod_lt _ (by omega)) (show C i ≤ 6 by omega)
    have hbi : ∀ R C a c : Nat, C ≤ 6 → a < 6 → c < 6 → zq_bi R C a c < 36 := by
      intro R C a c hC ha hc
      unfold zq_bi
      exact zq_ix (by split <;> omega) hC (by split <;> omega)
    have b1 := hbi (R p) (C p) _ _ (by omega) hdiv hmod
    have b2 := hbi (R q) (C q) _ _ (by omega) hdiv hmod
    have m215 : ∀ x8 x9, x8 = nI (e % C i) → x9 = nI (e / C i) → wY_evalNode_215 post (wY_evalNode_150 post (nI i) k (nI p) (nI q) (nI (R i * C i)) (nI (i * 36)) mx cnt st tp f) (nI i) k (nI p) (nI q) (nI (R i * C i)) (nI (i * 36)) (nI e) x8 x9 mx cnt st tp K X Y Z dt bd rq sr sd vr vd w := by
      intro x8 x9 e8 e9
      subst e8 e9
      unfold wY_evalNode_215
      refine zy_opi h6 hp gp ap.1 ap.2.1 ap.2.2 (zy_opi h6 hq gq aq.1 aq.2.1 aq.2.2 ?_)
      rw [zq_m36, zq_m36, nI_add (p * 36), nI_add (q * 36), nI_add (i * 36), nI_clamp (n := p * 36 + _) (by omega), nI_clamp (n := q * 36 + _) (by omega), nI_clamp (n := i * 36 + e) (by omega)]
      refine ⟨vp_in_nI (by omega) (by omega), nm_e ⟨vp_in_nI (by omega) (by omega), nm_e ?_⟩⟩
      unfold zq_op at hI
      refine br_c (fun hk => ⟨vp_in_nI (by omega) (by omega), nm_e (nm_r (nI_1 e) ?_)⟩) (fun hk => ⟨vp_in_nI (by omega) (by omega), nm_e (nm_r (nI_1 e) ?_)⟩)
      · rw [if_pos hk] at hI
        exact hI
      · rw [if_neg hk] at hI
        exact hI
    rw [wY_evalNode_150]
    dsimp only
    rw [nI_clamp (n := i) (by omega), zq_2m, nI_1 (2 * i), nI_clamp (n := 2 * i + 1) (by omega), ai.1, ai.2.2]
    have vi : vp_in (nI i) 16 := vp_in_nI (by omega) (by omega)
    refine br_f (nI_ge (by omega) (by omega)) ⟨vi, pk_eq (rk i) 2 (fun z => ?_) (fun z => ⟨vi, pk_eq (rk i) 0 (fun z1 => ?_) (fun z1 => ?_)⟩)⟩
    · have l1 : zq_l1 (rk i) (C i) = C i := if_pos z
      rw [l1]
      have hC0 : ¬ nI (C i) = 0 := nI_ne0 (by omega) (by omega)
      refine ⟨vp_in_nI (by omega) (by omega), nm_e ⟨hC0, nm_e ⟨hC0, nm_e (m215 _ _ ?_ ?_)⟩⟩⟩
      · exact pk_rem (by omega) (by omega) (by omega)
      · exact pk_div (by omega) (by omega) (by omega)
    · have eR : R i = 1 := by omega
      have eC : C i = 1 := by omega
      rw [eR, eC] at he
      refine m215 _ _ ?_ ?_
      · rw [eC, Nat.mod_one]; rfl
      · rw [eC, Nat.div_one, show e = 0 by omega]; rfl
    · have eR : R i = 1 := by omega
      rw [eR, Nat.one_mul] at he
      refine m215 _ _ ?_ ?_
      · rw [Nat.mod_eq_of_lt (by omega)]
      · rw [Nat.div_eq_of_lt (by omega)]; rfl
theorem zy_emm_i {post : SY → Prop} {J : Int32 → (Nat → Int32) → (Nat → Int32) → (Nat → Int32) → (Nat → Int32) → (Nat → Int32) → (Nat → Int32) → (Nat → Int32) → (Nat → Int32) → (Nat → Int32) → (Nat → Int32) → (Nat → Int32) → (Nat → Int32) → Prop} {i p q e r j m C : Nat} {x5 : Int32} (hi : i < 16) (hp : p < 16) (hq : q < 16) (he : e < 36) (hr : r < 6) (hj : j < 6) (hm : m ≤ 6) (hC : C ≤ 6)
    (hJ : J (nI (e + 1)) K X Y Z dt bd rq sr sd vr vd (upd el (i * 36 + e) (zq_sm (fun t => el (p * 36 + r * m + t) * el (q * 36 + t * C + j)) m))) :
    ∀ d t fu : Nat, t + d = m → d < fu → wY_evalNode_361 post J (nI p) (nI q) x5 (nI (i * 36)) (nI C) (nI m) (nI e) (nI r) (nI j) mx cnt st tp K X Y Z dt bd rq sr sd vr vd el fu (zq_sm (fun t => el (p * 36 + r * m + t) * el (q * 36 + t * C + j)) t) (nI t) := by
  intro d
  induction d with
  | zero =>
    intro t fu ht hf
    obtain ⟨f, rfl⟩ : ∃ f, fu = f + 1 := ⟨fu - 1, by omega⟩
    have e1 : t = m := by omega
    subst e1
    rw [wY_evalNode_361]
    dsimp only
    rw [nI_add (i * 36), nI_clamp (n := i * 36 + e) (by omega)]
    exact br_t (Int32.le_refl _) ⟨vp_in_nI (by omega) (by omega), nm_e (nm_r (nI_1 e) hJ)⟩
  | succ d ih =>
    intro t fu ht hf
    obtain ⟨f, rfl⟩ : ∃ f, fu = f + 1 := ⟨fu - 1, by omega⟩
    have hx := zq_ix hr hm (show t < 6 by omega)
    have hy := zq_ix (show t < 6 by omega) hC hj
    have ep : nI p * 36 + nI r * nI m + nI t = nI (p * 36 + r * m + t) := by rw [zq_m36, pk_mul, nI_add, nI_add]
    have eq : nI q * 36 + nI t * nI C + nI j = nI (q * 36 + t * C + j) := by rw [zq_m36, pk_mul, nI_add, nI_add]
    rw [wY_evalNode_361]
    dsimp only
    rw [ep, eq, nI_clamp (n := p * 36 + r * m + t) (by omega), nI_clamp (n := q * 36 + t * C + j) (by omega)]
    exact br_f (nI_ge (by omega) (by omega)) ⟨vp_in_nI (by omega) (by omega), vp_in_nI (by omega) (by omega), nm_e (nm_r (nI_1 t) (ih (t + 1) f (by omega) (by omega)))⟩
theorem zy_emm {post : SY → Prop} {i p q m R C : Nat} (hi : i < 16) (hp : p < 16) (hq : q < 16) (hm : m ≤ 6) (hR : R ≤ 6) (hC : C ≤ 6) (hC0 : 1 ≤ C)
    (h : post (mx, cnt, st, tp, K, X, Y, Z, dt, bd, rq, sr, sd, vr, vd, zq_fo (zq_fmm p q m C) (i * 36) el (R * C))) :
    ∀ d e fu : Nat, e + d = R * C → d < fu → wY_evalNode_334 post (nI p) (nI q) (nI (R * C)) (nI (i * 36)) (nI C) (nI m) mx cnt st tp fu (nI e) K X Y Z dt bd rq sr sd vr vd (zq_fo (zq_fmm p q m C) (i * 36) el e) := by
  have hRC : R * C ≤ 6 * 6 := Nat.mul_le_mul (by omega) (by omega)
  intro d
  induction d with
  | zero =>
    intro e fu he hf
    obtain ⟨f, rfl⟩ : ∃ f, fu = f + 1 := ⟨fu - 1, by omega⟩
    have e1 : e = R * C := by omega
    subst e1
    rw [wY_evalNode_334]
    exact br_t (Int32.le_refl _) h
  | succ d ih =>
    intro e fu he hf
    obtain ⟨f, rfl⟩ : ∃ f, fu = f + 1 := ⟨fu - 1, by omega⟩
    have hI := ih (e + 1) f (by omega) (by omega)
    have es : zq_fo (zq_fmm p q m C) (i * 36) el (e + 1) = upd (zq_fo (zq_fmm p q m C) (i * 36) el e) (i * 36 + e) (zq_sm (fun t => (zq_fo (zq_fmm p q m C) (i * 36) el e) (p * 36 + e / C * m + t) * (zq_fo (zq_fmm p q m C) (i * 36) el e) (q * 36 + t * C + e % C)) m) := rfl
    rw [es] at hI
    generalize zq_fo (zq_fmm p q m C) (i * 36) el e = w at hI ⊢
    have hdiv : e / C < 6 := Nat.lt_of_lt_of_le ((Nat.div_lt_iff_lt_mul (by omega)).mpr (by omega)) hR
    have hmod : e % C < 6 := Nat.lt_of_lt_of_le (Nat.mod_lt _ (by omega)) hC
    have hn0 : ¬ nI C = 0 := nI_ne0 (by omega) (by omega)
    rw [wY_evalNode_334]
    refine br_f (nI_ge (by omega) (by omega)) ⟨hn0, nm_r (pk_div (by omega) (by omega) (by omega)) ⟨hn0, nm_r (pk_rem (by omega) (by omega) (by omega)) ⟨m + 1, ?_⟩⟩⟩
    exact zy_emm_i hi hp hq (by omega) hdiv hmod hm hC hI m 0 (m + 1) (by omega) (by omega)
theorem zy_etr {post : SY → Prop} {i p R C : Nat} (hi : i < 16) (hp : p < 16) (hR : R ≤ 6) (hC : C ≤ 6) (hC0 : 1 ≤ C)
    (h : post (mx, cnt, st, tp, K, X, Y, Z, dt, bd, rq, sr, sd, vr, vd, zq_fo (zq_ftr p R C) (i * 36) el (R * C))) :
    ∀ d e fu : Nat, e + d = R * C → d < fu → wY_evalNode_466 post (nI p) (nI (R * C)) (nI (i * 36)) (nI C) (nI R) mx cnt st tp fu (nI e) K X Y Z dt bd rq sr sd vr vd (zq_fo (zq_ftr p R C) (i * 36) el e) := by
  have hRC : R * C ≤ 6 * 6 := Nat.mul_le_mul (by omega) (by omega)
  intro d
  induction d with
  | zero =>
    intro e fu he hf
    obtain ⟨f, rfl⟩ : ∃ f, fu = f + 1 := ⟨fu - 1, by omega⟩
    have e1 : e = R * C := by omega
    subst e1
    rw [wY_evalNode_466]
    exact br_t (Int32.le_refl _) h
  | succ d ih =>
    intro e fu he hf
    obtain ⟨f, rfl⟩ : ∃ f, fu = f + 1 := ⟨fu - 1, by omega⟩
    have hI := ih (e + 1) f (by omega) (by omega)
    have es : zq_fo (zq_ftr p R C) (i * 36) el (e + 1) = upd (zq_fo (zq_ftr p R C) (i * 36) el e) (i * 36 + e) ((zq_fo (zq_ftr p R C) (i * 36) el e) (p * 36 + e % C * R + e / C)) := rfl
    rw [es] at hI
    generalize zq_fo (zq_ftr p R C) (i * 36) el e = w at hI ⊢
    have hdiv : e / C < 6 := Nat.lt_of_lt_of_le ((Nat.div_lt_iff_lt_mul (by omega)).mpr (by omega)) hR
    have hmod : e % C < 6 := Nat.lt_of_lt_of_le (Nat.mod_lt _ (by omega)) hC
    have hx := zq_ix hmod hR hdiv
    have hn0 : ¬ nI C = 0 := nI_ne0 (by omega) (by omega)
    have ei : nI p * 36 + (nI e - nI e / nI C * nI C) * nI R + nI e / nI C = nI (p * 36 + e % C * R + e / C) := by
      rw [pk_rem (by omega) (by omega) (by omega), pk_div (by omega) (by omega) (by omega), zq_m36, pk_mul, nI_add, nI_add]
    rw [wY_evalNode_466]
    dsimp only
    rw [ei, nI_add (i * 36), nI_clamp (n := i * 36 + e) (by omega), nI_clamp (n := p * 36 + e % C * R + e / C) (by omega)]
    exact br_f (nI_ge (by omega) (by omega)) ⟨hn0, hn0, vp_in_nI (by omega) (by omega), vp_in_nI (by omega) (by omega), nm_e (nm_r (nI_1 e) hI)⟩
theorem zy_es1 {post : SY → Prop} {i p C : Nat} (hi : i < 16) (hp : p < 16) (hC : C ≤ 6) (e0 : sd (2 * p) = nI C)
    (h : post (mx, cnt, st, tp, K, X, Y, Z, dt, bd, rq, sr, sd, vr, vd, upd el (i * 36) (zq_sm (fun t => el (p * 36 + t)) C))) :
    ∀ d t fu : Nat, t + d = C → d < fu → wY_evalNode_530 post (nI p) (nI (i * 36)) mx cnt st tp K X Y Z dt bd rq sr sd vr vd el fu (zq_sm (fun t => el (p * 36 + t)) t) (nI t) := by
  have w0 : vp_in (nI (2 * p)) 32 := vp_in_nI (by omega) (by omega)
  intro d
  induction d with
  | zero =>
    intro t fu ht hf
    obtain ⟨f, rfl⟩ : ∃ f, fu = f + 1 := ⟨fu - 1, by omega⟩
    have e1 : t = C := by omega
    subst e1
    rw [wY_evalNode_530]
    dsimp only
    rw [zq_2m, nI_clamp (n := 2 * p) (by omega), e0, nI_clamp (n := i * 36) (by omega)]
    exact ⟨w0, br_t (Int32.le_refl _) ⟨vp_in_nI (by omega) (by omega), nm_e h⟩⟩
  | succ d ih =>
    intro t fu ht hf
    obtain ⟨f, rfl⟩ : ∃ f, fu = f + 1 := ⟨fu - 1, by omega⟩
    rw [wY_evalNode_530]
    dsimp only
    rw [zq_2m, nI_clamp (n := 2 * p) (by omega), e0, zq_m36, nI_add (p * 36), nI_clamp (n := p * 36 + t) (by omega)]
    exact ⟨w0, br_f (nI_ge (by omega) (by omega)) ⟨vp_in_nI (by omega) (by omega), nm_e (nm_r (nI_1 t) (ih (t + 1) f (by omega) (by omega)))⟩⟩
theorem zy_es2_i {post : SY → Prop} {J : Int32 → (Nat → Int32) → (Nat → Int32) → (Nat → Int32) → (Nat → Int32) → (Nat → Int32) → (Nat → Int32) → (Nat → Int32) → (Nat → Int32) → (Nat → Int32) → (Nat → Int32) → (Nat → Int32) → (Nat → Int32) → Prop} {i p o m C : Nat} {y x9 : Int32} {G : Nat → Nat} (hi : i < 16) (hp : p < 16) (ho : o < 6) (hm : m ≤ 6) (hC : C ≤ 6)
    (hG : G = if y = 0 then (fun t => p * 36 + t * C + o) else (fun t => p * 36 + o * C + t))
    (hJ : J (nI (o + 1)) K X Y Z dt bd rq sr sd vr vd (upd el (i * 36 + o) (zq_sm (fun t => el (G t)) m))) :
    ∀ d t fu : Nat, t + d = m → d < fu → wY_evalNode_642 post J (nI p) y (nI (i * 36)) (nI C) x9 (nI m) (nI o) mx cnt st tp K X Y Z dt bd rq sr sd vr vd el fu (zq_sm (fun t => el (G t)) t) (nI t) := by
  intro d
  induction d with
  | zero =>
    intro t fu ht hf
    obtain ⟨f, rfl⟩ : ∃ f, fu = f + 1 := ⟨fu - 1, by omega⟩
    have e1 : t = m := by omega
    subst e1
    rw [wY_evalNode_642]
    dsimp only
    rw [nI_add (i * 36), nI_clamp (n := i * 36 + o) (by omega)]
    exact br_t (Int32.le_refl _) ⟨vp_in_nI (by omega) (by omega), nm_e (nm_r (nI_1 o) hJ)⟩
  | succ d ih =>
    intro t fu ht hf
    obtain ⟨f, rfl⟩ : ∃ f, fu = f + 1 := ⟨fu - 1, by omega⟩
    have hI := ih (t + 1) f (by omega) (by omega)
    have es : zq_sm (fun t => el (G t)) (t + 1) = zq_sm (fun t => el (G t)) t + el (G t) := rfl
    rw [es] at hI
    have hx := zq_ix (show t < 6 by omega) hC ho
    have hy := zq_ix ho hC (show t < 6 by omega)
    have ep : nI p * 36 + nI t * nI C + nI o = nI (p * 36 + t * C + o) := by rw [zq_m36, pk_mul, nI_add, nI_add]
    have eq : nI p * 36 + nI o * nI C + nI t = nI (p * 36 + o * C + t) := by rw [zq_m36, pk_mul, nI_add, nI_add]
    rw [wY_evalNode_642]
    dsimp only
    rw [ep, eq, nI_clamp (n := p * 36 + t * C + o) (by omega), nI_clamp (n := p * 36 + o * C + t) (by omega)]
    refine br_f (nI_ge (by omega) (by omega)) (br_c (fun hy0 => ⟨vp_in_nI (by omega) (by omega), nm_e (nm_r (nI_1 t) ?_)⟩) (fun hy0 => ⟨vp_in_nI (by omega) (by omega), nm_e (nm_r (nI_1 t) ?_)⟩))
    · have g : G t = p * 36 + t * C + o := by rw [hG, if_pos hy0]
      rw [g] at hI
      exact hI
    · have g : G t = p * 36 + o * C + t := by rw [hG, if_neg hy0]
      rw [g] at hI
      exact hI
theorem zy_es2 {post : SY → Prop} {i p n m C : Nat} {y : Int32} {F : (Nat → Int32) → Nat → Int32} (hi : i < 16) (hp : p < 16) (hn : n ≤ 6) (hm : m ≤ 6) (hC : C ≤ 6)
    (hF : ∀ v o, F v o = zq_sm (fun t => v ((if y = 0 then (fun t => p * 36 + t * C + o) else (fun t => p * 36 + o * C + t)) t)) m)
    (h : post (mx, cnt, st, tp, K, X, Y, Z, dt, bd, rq, sr, sd, vr, vd, zq_fo F (i * 36) el n)) :
    ∀ d o fu : Nat, o + d = n → d < fu → wY_evalNode_629 post (nI p) y (nI (i * 36)) (nI C) (nI n) (nI m) mx cnt st tp fu (nI o) K X Y Z dt bd rq sr sd vr vd (zq_fo F (i * 36) el o) := by
  intro d
  induction d with
  | zero =>
    intro o fu he hf
    obtain ⟨f, rfl⟩ : ∃ f, fu = f + 1 := ⟨fu - 1, by omega⟩
    have e1 : o = n := by omega
    subst e1
    rw [wY_evalNode_629]
    exact br_t (Int32.le_refl _) h
  | succ d ih =>
    intro o fu he hf
    obtain ⟨f, rfl⟩ : ∃ f, fu = f + 1 := ⟨fu - 1, by omega⟩
    have hI := ih (o + 1) f (by omega) (by omega)
    have es : zq_fo F (i * 36) el (o + 1) = upd (zq_fo F (i * 36) el o) (i * 36 + o) (F (zq_fo F (i * 36) el o) o) := rfl
    rw [es, hF] at hI
    generalize zq_fo F (i * 36) el o = w at hI ⊢
    rw [wY_evalNode_629]
    refine br_f (nI_ge (by omega) (by omega)) ⟨m + 1, ?_⟩
    exact zy_es2_i hi hp (by omega) hm hC rfl hI m 0 (m + 1) (by omega) (by omega)
theorem zy_eval {post : SY → Prop} {D i a0 a1 a2 : Nat} {rk R C : Nat → Nat} (h6 : D ≤ 6) (hi : i < 16) (hn : zq_nd D i rk (K i) (X i) (Y i) (Z i)) (hg : ∀ j, j ≤ i → zq_good D (rk j) (R j) (C j)) (hu : zq_ru (K i) (X i) (Y i) (Z i) a0 a1 a2 rk R C = some (R i, C i)) (hA : zq_ag rk R C (i + 1) sr sd)
    (hp : post (mx, cnt, st, tp, K, X, Y, Z, dt, bd, rq, sr, sd, vr, vd, zq_fo (zq_f (K i) (X i) (Y i) i dt rk R C) (i * 36) el (R i * C i))) : wpY_evalNode post (mx, cnt, st, tp, K, X, Y, Z, dt, bd, rq, sr, sd, vr, vd, el) (nI i) := by
  have gi := hg i (by omega)
  have gi' := gi
  unfold zq_good at gi'
  have hRC : R i * C i ≤ 6 * 6 := Nat.mul_le_mul (by omega) (by omega)
  have ai := hA i (by omega)
  have vi : vp_in (nI i) 16 := vp_in_nI (by omega) (by omega)
  unfold wpY_evalNode
  dsimp only
  rw [nI_clamp (by omega)]
  rcases hn with ⟨ek, h2, h3⟩ | ⟨p, q, hpi, hqi, ex, ey, ek, h4⟩ | ⟨p, q, hpi, hqi, ex, ey, ek, h4, h5, h7⟩ | ⟨p, hpi, ex, ek, h3⟩ | ⟨p, hpi, ex, ek, h3, h4⟩ | ⟨p, s, hpi, ex, ek, h3, h4, h5⟩
  · refine ⟨vi, nm_r ek ⟨vi, nm_e ⟨vi, nm_e (zy_prod hi gi ai.1 ai.2.1 ai.2.2 (nm_r (zq_m36 i) (br_t rfl ⟨R i * C i + 1, ?_⟩)))⟩⟩⟩
    rw [ek, zq_f1] at hp
    exact zy_ein hi (by omega) hp (R i * C i) 0 _ (by omega) (by omega)
  · rw [ex, ey, zq_f2 (by omega) (by omega) ek] at hp
    have W := zy_ebc h6 hi (by omega) (by omega) gi (hg p (by omega)) (hg q (by omega)) ai (hA p (by omega)) (hA q (by omega)) hp (R i * C i) 0 (R i * C i + 1) (by omega) (by omega)
    have m137 : wY_evalNode_137 post (nI i) (K i) (nI p) (nI q) (nI (R i * C i)) (nI (i * 36)) mx cnt st tp K X Y Z dt bd rq sr sd vr vd el := by
      unfold wY_evalNode_137
      rcases ek with ek | ek
      · exact br_t ek ⟨_, W⟩
      · exact br_f (by rw [ek]; decide) (br_t ek ⟨_, W⟩)
    have n1 : ¬ K i = 1 := by rcases ek with ek | ek <;> rw [ek] <;> decide
    have n6 : ¬ K i = 6 := by rcases ek with ek | ek <;> rw [ek] <;> decide
    have n5 : ¬ K i = 5 := by rcases ek with ek | ek <;> rw [ek] <;> decide
    exact ⟨vi, nm_e ⟨vi, nm_r ex ⟨vi, nm_r ey (zy_prod hi gi ai.1 ai.2.1 ai.2.2 (nm_r (zq_m36 i) (br_f n1 (br_f n6 (br_f n5 m137)))))⟩⟩⟩
  · have gp := hg p (by omega)
    have ap := hA p (by omega)
    unfold zq_good at gp
    rw [ek, ex, ey, zq_f4 (by omega) (by omega)] at hp
    refine ⟨vi, nm_r ek ⟨vi, nm_r ex ⟨vi, nm_r ey (zy_prod hi gi ai.1 ai.2.1 ai.2.2 (nm_r (zq_m36 i) (br_f (by decide) (br_f (by decide) (br_f (by decide) ?_)))))⟩⟩⟩
    unfold wY_evalNode_137
    rw [zq_2m, nI_1, nI_clamp (n := 2 * i + 1) (by omega), zq_2m p, nI_1 (2 * p), nI_clamp (n := 2 * p + 1) (by omega), ai.2.2, ap.2.2, h4, h7]
    refine br_f (by decide) (br_f (by decide) (br_t rfl ⟨vp_in_nI (by omega) (by omega), nm_e ⟨vp_in_nI (by omega) (by omega), nm_e ⟨R i * C i + 1, ?_⟩⟩⟩))
    exact zy_emm hi (by omega) (by omega) (by omega) (by omega) (by omega) (by omega) hp (R i * C i) 0 (R i * C i + 1) (by omega) (by omega)
  · have gp := hg p (by omega)
    have ap := hA p (by omega)
    unfold zq_good at gp
    have vp : vp_in (nI p) 16 := vp_in_nI (by omega) (by omega)
    refine ⟨vi, nm_r ek ⟨vi, nm_r ex ⟨vi, nm_e (zy_prod hi gi ai.1 ai.2.1 ai.2.2 (nm_r (zq_m36 i) (br_f (by decide) (br_f (by decide) (br_t rfl ⟨vp, ?_⟩)))))⟩⟩⟩
    rw [nI_clamp (n := p) (by omega), ap.1]
    refine pk_eq (rk p) 2 (fun z => ?_) (fun z => ⟨R i * C i + 1, ?_⟩)
    · rw [ek, ex, zq_f5t (by omega) z] at hp
      rw [ek, ex, zq_ru5 (by omega), if_pos z] at hu
      have u1 : C p = R i := congrArg Prod.fst (Option.some.inj hu)
      have u2 : R p = C i := congrArg Prod.snd (Option.some.inj hu)
      unfold wY_evalNode_137
      rw [zq_2m p, nI_1 (2 * p), nI_clamp (n := 2 * p) (by omega), nI_clamp (n := 2 * p + 1) (by omega), ap.2.1, ap.2.2, z]
      refine br_f (by decide) (br_f (by decide) (br_f (by decide) (br_t rfl ⟨vp_in_nI (by omega) (by omega), nm_e ⟨vp_in_nI (by omega) (by omega), nm_e ⟨R i * C i + 1, ?_⟩⟩⟩)))
      show wY_evalNode_466 post (nI p) (nI (R i * C i)) (nI (i * 36)) (nI (R p)) (nI (C p)) mx cnt st tp (R i * C i + 1) 0 K X Y Z dt bd rq sr sd vr vd el
      rw [u1, u2]
      exact zy_etr hi (by omega) (by omega) (by omega) (by omega) hp (R i * C i) 0 (R i * C i + 1) (by omega) (by omega)
    · rw [ek, ex, zq_f5c (by omega) z] at hp
      exact zy_ecp hi (by omega) (by omega) hp (R i * C i) 0 _ (by omega) (by omega)
  · rw [ek, ex, zq_f6 (by omega)] at hp
    refine ⟨vi, nm_r ek ⟨vi, nm_r ex ⟨vi, nm_e (zy_prod hi gi ai.1 ai.2.1 ai.2.2 (nm_r (zq_m36 i) (br_f (by decide) (br_t rfl ⟨R i * C i + 1, ?_⟩))))⟩⟩⟩
    exact zy_ecp hi (by omega) (by omega) hp (R i * C i) 0 _ (by omega) (by omega)
  · have gp := hg p (by omega)
    have ap := hA p (by omega)
    unfold zq_good at gp
    have vp : vp_in (nI p) 16 := vp_in_nI (by omega) (by omega)
    rw [ek, ex, zq_ru7 (by omega)] at hu
    have u1 : 1 = R i := congrArg Prod.fst (Option.some.inj hu)
    have u2 : (if rk p = 2 ∧ Y i = 0 then C p else R p) = C i := congrArg Prod.snd (Option.some.inj hu)
    rw [← u1, Nat.one_mul] at hp
    refine ⟨vi, nm_r ek ⟨vi, nm_r ex ⟨vi, nm_e (zy_prod hi gi ai.1 ai.2.1 ai.2.2 (nm_r (zq_m36 i) (br_f (by decide) (br_f (by decide) (br_f (by decide) ?_)))))⟩⟩⟩
    unfold wY_evalNode_137
    rw [nI_clamp (n := p) (by omega), zq_2m p, nI_1 (2 * p), nI_clamp (n := 2 * p) (by omega), nI_clamp (n := 2 * p + 1) (by omega), ap.1, ap.2.1, ap.2.2]
    refine br_f (by decide) (br_f (by decide) (br_f (by decide) (br_f (by decide) ⟨vp, pk_eq (rk p) 1 (fun z => ⟨C p + 1, ?_⟩) (fun z => ?_)⟩)))
    · have hz : ¬ (rk p = 2 ∧ Y i = 0) := fun w => by omega
      rw [if_neg hz] at u2
      rw [← u2, show R p = 1 by omega, ek, ex, zq_f7r (by omega) hz] at hp
      have e0 : sd (2 * p) = nI (C p) := by
        rw [ap.2.1]
        unfold zq_l0
        rw [if_neg (by omega)]
      refine zy_es1 hi (by omega) (by omega) e0 ?_ (C p) 0 (C p + 1) (by omega) (by omega)
      have es : zq_fo (zq_fsr p (C p)) (i * 36) el 1 = upd el (i * 36) (zq_sm (fun t => el (p * 36 + t)) (C p)) := by
        show upd el (i * 36 + 0) (zq_sm (fun t => el (p * 36 + 0 * C p + t)) (C p)) = _
        rw [Nat.zero_mul, Nat.add_zero, Nat.add_zero]
      rw [es] at hp
      exact hp
    · have e2 : rk p = 2 := by omega
      have l0 : zq_l0 2 (R p) (C p) = R p := if_pos rfl
      have l1 : zq_l1 2 (C p) = C p := if_pos rfl
      rw [e2, l0, l1]
      refine ⟨vp_in_nI (by omega) (by omega), nm_e ⟨vp_in_nI (by omega) (by omega), nm_e ?_⟩⟩
      refine br_c (fun hy => ?_) (fun hy => ?_)
      · rw [if_pos ⟨e2, hy⟩] at u2
        rw [ek, ex, zq_f7c (by omega) ⟨e2, hy⟩, ← u2] at hp
        unfold wY_evalNode_610
        refine br_t hy ⟨C p + 1, ?_⟩
        refine zy_es2 hi (by omega) (by omega) (by omega) (by omega) (fun v o => ?_) hp (C p) 0 (C p + 1) (by omega) (by omega)
        rw [if_pos hy]
        rfl
      · rw [if_neg (fun w => hy w.2)] at u2
        rw [ek, ex, zq_f7r (by omega) (fun w => hy w.2), ← u2] at hp
        unfold wY_evalNode_610
        refine br_f hy ⟨R p + 1, ?_⟩
        refine zy_es2 hi (by omega) (by omega) (by omega) (by omega) (fun v o => ?_) hp (R p) 0 (R p + 1) (by omega) (by omega)
        rw [if_neg hy]
        rfl
end
end
section
/-! the reference: what holds in all admissible instantiations -/
def zq_sv (D n j : Nat) : Nat := if j = 0 then n / (D * D) + 1 else if j = 1 then n / D % D + 1 else n % D + 1
theorem zq_d1 {D m : Nat} (h2 : 2 ≤ D) (h6 : D ≤ 6) (hm : m < 2 ^ 31) : nI m / (nI D * nI D) + 1 = nI (m / (D * D) + 1) := by
  have h36 := zq_36 h6
  have h4 : 2 * 2 ≤ D * D := Nat.mul_le_mul h2 h2
  rw [pk_mul, pk_div hm (by omega) (by omega), nI_1]
theorem zq_d2 {D m : Nat} (h2 : 2 ≤ D) (h6 : D ≤ 6) (hm : m < 2 ^ 31) : nI m / nI D - nI m / nI D / nI D * nI D + 1 = nI (m / D % D + 1) := by
  rw [pk_div hm (by omega) (by omega), pk_rem (Nat.lt_of_le_of_lt (Nat.div_le_self m D) hm) (by omega) (by omega), nI_1]
theorem zq_d3 {D m : Nat} (h2 : 2 ≤ D) (h6 : D ≤ 6) (hm : m < 2 ^ 31) : nI m - nI m / nI D * nI D + 1 = nI (m % D + 1) := by
  rw [pk_rem hm (by omega) (by omega), nI_1]
theorem zq_dd {D : Nat} (h2 : 2 ≤ D) (h6 : D ≤ 6) : ¬ nI D * nI D = 0 := by
  have h36 := zq_36 h6
  have h4 : 2 * 2 ≤ D * D := Nat.mul_le_mul h2 h2
  rw [pk_mul]
  exact nI_ne0 (by omega) (by omega)
section
variable {mx cnt st tp : Int32} {K X Y Z dt bd rq sr sd vr vd el : Nat → Int32} {sz tr : Nat → Int32} {D c N : Nat} {rk : Nat → Nat}
/-- shapes at the n-th instantiation -/
theorem zy_sat {post : Int32 → SY → Prop} {n : Nat} (h2 : 2 ≤ D) (h6 : D ≤ 6) (hc : c ≤ 16) (hn : ∀ i, i < c → zq_nd D i rk (K i) (X i) (Y i) (Z i)) (hr : ∀ j, j < c → rk j ≤ 2) (hnN : n < D * D * D) (ht : zq_tb D c K X Y Z rk sz tr n)
    (hp : ∀ r sr' sd', ((r = nI c ∧ tr n = -1 ∧ ∀ i s, i < c → s < rk i → sd' (2 * i + s) = sz (n * 35 + (i * 2 + 2 - rk i + s))) ∨ (¬ r = nI c ∧ ¬ tr n = -1)) → post r (nI D, nI c, st, tp, K, X, Y, Z, dt, bd, rq, sr', sd', vr, vd, el)) :
    wpY_shapes post (nI D, nI c, st, tp, K, X, Y, Z, dt, bd, rq, sr, sd, vr, vd, el) (nI (n / (D * D) + 1)) (nI (n / D % D + 1)) (nI (n % D + 1)) := by
  obtain ⟨t1, t2, t3, t, R, C, t4, t5, t6⟩ := ht
  have hd := zq_dec h2 h6 hnN
  refine zy_shapes h6 hc hn hr (fun p q hs => zq_spec_good h2 h6 hs ⟨Nat.succ_le_succ (Nat.zero_le _), hd.1⟩ ⟨Nat.succ_le_succ (Nat.zero_le _), hd.2.1⟩ ⟨Nat.succ_le_succ (Nat.zero_le _), hd.2.2.1⟩) t4 (fun sr' sd' hA => hp _ sr' sd' ?_)
  have htc := t4.1
  rcases t6 with ⟨rfl, e⟩ | ⟨hlt, e⟩
  · refine Or.inl ⟨rfl, e, fun i s hi hs => ?_⟩
    have a := hA i hi
    have b := t5 i hi
    have r2 := hr i hi
    have e1 : rk i = 1 ∨ rk i = 2 := by omega
    rcases e1 with e1 | e1
    · have s0 : s = 0 := by omega
      subst s0
      have l0 : zq_l0 1 (R i) (C i) = C i := if_neg (by omega)
      rw [e1, l0] at a
      rw [e1, show i * 2 + 2 - 1 + 0 = i * 2 + 1 by omega, ← Nat.add_assoc, b.2]
      exact a.2.1
    · have l0 : zq_l0 2 (R i) (C i) = R i := if_pos rfl
      have l1 : zq_l1 2 (C i) = C i := if_pos rfl
      rw [e1, l0, l1] at a
      have s01 : s = 0 ∨ s = 1 := by omega
      rcases s01 with rfl | rfl
      · rw [e1, show i * 2 + 2 - 2 + 0 = i * 2 by omega, b.1]
        exact a.2.1
      · rw [e1, show i * 2 + 2 - 2 + 1 = i * 2 + 1 by omega, ← Nat.add_assoc, b.2]
        exact a.2.2
  · refine Or.inr ⟨fun z => ?_, fun z => ?_⟩
    · have w := (nI_eq (by omega) (by omega)).mp z
      omega
    · rw [e] at z
      exact zq_m1 (by omega) z
theorem zy_acc_l {post : Int32 → SY → Prop} (h2 : 2 ≤ D) (h6 : D ≤ 6) (hN : N = D * D * D) (hc : c ≤ 16) (hn : ∀ i, i < c → zq_nd D i rk (K i) (X i) (Y i) (Z i)) (hr : ∀ j, j < c → rk j ≤ 2) (ht : ∀ n, n < N → zq_tb D c K X Y Z rk sz tr n)
    (ok : zq_any (fun n => tr n = -1) N → ∀ sr' sd', post 1 (nI D, nI c, st, tp, K, X, Y, Z, dt, bd, rq, sr', sd', vr, vd, el)) (no : ¬ zq_any (fun n => tr n = -1) N → ∀ sr' sd', post 0 (nI D, nI c, st, tp, K, X, Y, Z, dt, bd, rq, sr', sd', vr, vd, el)) :
    ∀ d m fu : Nat, ∀ sr sd : Nat → Int32, m + d = N → d < fu → ¬ zq_any (fun n => tr n = -1) m → wY_accepted_17 post (nI N) fu (nI m) (nI D) (nI c) st tp K X Y Z dt bd rq sr sd vr vd el := by
  have h216 := zq_216 h6
  intro d
  induction d with
  | zero =>
    intro m fu sr sd hm hf h
    obtain ⟨f, rfl⟩ : ∃ f, fu = f + 1 := ⟨fu - 1, by omega⟩
    have e : m = N := by omega
    subst e
    rw [wY_accepted_17]
    exact br_t (Int32.le_refl _) (no h sr sd)
  | succ d ih =>
    intro m fu sr sd hm hf h
    obtain ⟨f, rfl⟩ : ∃ f, fu = f + 1 := ⟨fu - 1, by omega⟩
    have hD0 : ¬ nI D = 0 := nI_ne0 (by omega) (by omega)
    rw [wY_accepted_17]
    refine br_f (nI_ge (by omega) (by omega)) ⟨zq_dd h2 h6, hD0, hD0, hD0, ?_⟩
    rw [zq_d1 h2 h6 (by omega), zq_d2 h2 h6 (by omega), zq_d3 h2 h6 (by omega)]
    refine zy_sat h2 h6 hc hn hr (by omega) (ht m (by omega)) (fun r sr' sd' w => ?_)
    rcases w with ⟨e, hA, _⟩ | ⟨e, hA⟩
    · exact br_t e (ok ⟨m, by omega, hA⟩ sr' sd')
    · exact br_f e (nm_r (nI_1 m) (ih (m + 1) f sr' sd' (by omega) (by omega) (fun z => h ((zq_any_n (A := fun n => tr n = -1) hA).mpr z))))
theorem zy_acc {post : Int32 → SY → Prop} (h2 : 2 ≤ D) (h6 : D ≤ 6) (hc : c ≤ 16) (hn : ∀ i, i < c → zq_nd D i rk (K i) (X i) (Y i) (Z i)) (hr : ∀ j, j < c → rk j ≤ 2) (ht : ∀ n, n < D * D * D → zq_tb D c K X Y Z rk sz tr n)
    (ok : zq_any (fun n => tr n = -1) (D * D * D) → ∀ sr' sd', post 1 (nI D, nI c, st, tp, K, X, Y, Z, dt, bd, rq, sr', sd', vr, vd, el)) (no : ¬ zq_any (fun n => tr n = -1) (D * D * D) → ∀ sr' sd', post 0 (nI D, nI c, st, tp, K, X, Y, Z, dt, bd, rq, sr', sd', vr, vd, el)) : wpY_accepted post (nI D, nI c, st, tp, K, X, Y, Z, dt, bd, rq, sr, sd, vr, vd, el) := by
  unfold wpY_accepted
  dsimp only
  refine nm_r (e' := nI (D * D * D)) (by rw [pk_mul, pk_mul]) ⟨D * D * D + 1, ?_⟩
  exact zy_acc_l h2 h6 rfl hc hn hr ht ok no (D * D * D) 0 _ sr sd (by omega) (by omega) zq_any_0
/-- the three comparisons at the end of a turn of dimOf -/
theorem zy_dtail {post : Int32 → SY → Prop} {J : Int32 → Int32 → Int32 → Int32 → Int32 → Int32 → Int32 → Int32 → Int32 → Int32 → Int32 → (Nat → Int32) → (Nat → Int32) → (Nat → Int32) → (Nat → Int32) → (Nat → Int32) → (Nat → Int32) → (Nat → Int32) → (Nat → Int32) → (Nat → Int32) → (Nat → Int32) → (Nat → Int32) → (Nat → Int32) → Prop}
    {A : Nat → Prop} {g s0 s1 s2 : Nat → Int32} {m : Nat} {x1 x2 x4 x5 x6 x7 x8 x9 x10 : Int32} (hA : A m) (f0 : zq_fl x6 (zq_eqs A g s0 m)) (f1 : zq_fl x7 (zq_eqs A g s1 m)) (f2 : zq_fl x8 (zq_eqs A g s2 m))
    (hJ : ∀ y6 y7 y8, zq_fl y6 (zq_eqs A g s0 (m + 1)) → zq_fl y7 (zq_eqs A g s1 (m + 1)) → zq_fl y8 (zq_eqs A g s2 (m + 1)) → J x4 x5 y6 y7 y8 x9 (nI (m + 1)) mx cnt st tp K X Y Z dt bd rq sr sd vr vd el) :
    wY_dimOf_175 post J x1 x2 x4 x5 x6 x7 x8 x9 x10 (nI m) (s0 m) (s1 m) (s2 m) (g m) mx cnt st tp K X Y Z dt bd rq sr sd vr vd el := by
  have l195 : ∀ y6 y7, zq_fl y6 (zq_eqs A g s0 (m + 1)) → zq_fl y7 (zq_eqs A g s1 (m + 1)) → wY_dimOf_195 post J x1 x2 x4 x5 y6 y7 x8 x9 x10 (nI m) (s2 m) (g m) mx cnt st tp K X Y Z dt bd rq sr sd vr vd el := by
    intro y6 y7 g0 g1
    unfold wY_dimOf_195
    refine br_c (fun e => nm_r (nI_1 m) ?_) (fun e => nm_r (nI_1 m) ?_)
    · exact hJ y6 y7 x8 g0 g1 (zq_fl_i f2 (zq_eqs_y e))
    · exact hJ y6 y7 0 g0 g1 (zq_fl_0 (zq_eqs_f hA (by omega) e))
  have l185 : ∀ y6, zq_fl y6 (zq_eqs A g s0 (m + 1)) → wY_dimOf_185 post J x1 x2 x4 x5 y6 x7 x8 x9 x10 (nI m) (s1 m) (s2 m) (g m) mx cnt st tp K X Y Z dt bd rq sr sd vr vd el := by
    intro y6 g0
    unfold wY_dimOf_185
    refine br_c (fun e => ?_) (fun e => ?_)
    · exact l195 y6 x7 g0 (zq_fl_i f1 (zq_eqs_y e))
    · exact l195 y6 0 g0 (zq_fl_0 (zq_eqs_f hA (by omega) e))
  unfold wY_dimOf_175
  refine br_c (fun e => ?_) (fun e => ?_)
  · exact l185 x6 (zq_fl_i f0 (zq_eqs_y e))
  · exact l185 0 (zq_fl_0 (zq_eqs_f hA (by omega) e))
theorem zy_dim_l {post : Int32 → SY → Prop} {p s : Nat} (h2 : 2 ≤ D) (h6 : D ≤ 6) (hN : N = D * D * D) (hc : c ≤ 16) (hn : ∀ i, i < c → zq_nd D i rk (K i) (X i) (Y i) (Z i)) (hr : ∀ j, j < c → rk j ≤ 2) (ht : ∀ n, n < N → zq_tb D c K X Y Z rk sz tr n) (hp : p < c) (hs : s < rk p)
    (ok : ∀ r sr' sd', zq_dr (fun n => tr n = -1) (fun n => sz (n * 35 + (p * 2 + 2 - rk p + s))) (fun n => sz (n * 35 + 32)) (fun n => sz (n * 35 + 33)) (fun n => sz (n * 35 + 34)) N r → post r (nI D, nI c, st, tp, K, X, Y, Z, dt, bd, rq, sr', sd', vr, vd, el)) :
    ∀ d m fu : Nat, ∀ x4 x5 x6 x7 x8 x9 : Int32, ∀ sr sd : Nat → Int32, m + d = N → d < fu →
      zq_fl x4 (zq_any (fun n => tr n = -1) m) → zq_fl x5 (zq_same (fun n => tr n = -1) (fun n => sz (n * 35 + (p * 2 + 2 - rk p + s))) m) →
      zq_fl x6 (zq_eqs (fun n => tr n = -1) (fun n => sz (n * 35 + (p * 2 + 2 - rk p + s))) (fun n => sz (n * 35 + 32)) m) →
      zq_fl x7 (zq_eqs (fun n => tr n = -1) (fun n => sz (n * 35 + (p * 2 + 2 - rk p + s))) (fun n => sz (n * 35 + 33)) m) →
      zq_fl x8 (zq_eqs (fun n => tr n = -1) (fun n => sz (n * 35 + (p * 2 + 2 - rk p + s))) (fun n => sz (n * 35 + 34)) m) →
      (zq_any (fun n => tr n = -1) m → ∃ j, j < m ∧ tr j = -1 ∧ x9 = sz (j * 35 + (p * 2 + 2 - rk p + s))) →
      wY_dimOf_68 post (nI p) (nI s) (nI N) fu x4 x5 x6 x7 x8 x9 (nI m) (nI D) (nI c) st tp K X Y Z dt bd rq sr sd vr vd el := by
  have h216 := zq_216 h6
  have rp := hr p hp
  intro d
  induction d with
  | zero =>
    intro m fu x4 x5 x6 x7 x8 x9 sr sd hm hf f4 f5 f6 f7 f8 h9
    obtain ⟨f, rfl⟩ : ∃ f, fu = f + 1 := ⟨fu - 1, by omega⟩
    have e : m = N := by omega
    subst e
    rw [wY_dimOf_68]
    refine br_t (Int32.le_refl _) (br_c (fun e4 => ok _ _ _ (Or.inl ⟨zq_fl_e0 f4 e4, rfl⟩)) (fun e4 => ?_))
    have ha := zq_fl_n0 f4 e4
    refine br_c (fun e5 => ?_) (fun e5 => ?_)
    · have ok := fun r w => ok r sr sd (Or.inr (Or.inr ⟨ha, zq_fl_e0 f5 e5, w⟩))
      refine br_c (fun e6 => br_c (fun e7 => br_c (fun e8 => ?_) (fun e8 => ?_)) (fun e7 => ?_)) (fun e6 => ?_)
      · exact ok _ (Or.inr (Or.inr (Or.inr ⟨zq_fl_e0 f6 e6, zq_fl_e0 f7 e7, zq_fl_e0 f8 e8, rfl⟩)))
      · exact ok _ (Or.inr (Or.inr (Or.inl ⟨zq_fl_e0 f6 e6, zq_fl_e0 f7 e7, zq_fl_n0 f8 e8, rfl⟩)))
      · exact ok _ (Or.inr (Or.inl ⟨zq_fl_e0 f6 e6, zq_fl_n0 f7 e7, rfl⟩))
      · exact ok _ (Or.inl ⟨zq_fl_n0 f6 e6, rfl⟩)
    · obtain ⟨j, hj, hA, e9⟩ := h9 ha
      exact ok _ _ _ (Or.inr (Or.inl ⟨zq_fl_n0 f5 e5, j, hj, hA, e9⟩))
  | succ d ih =>
    intro m fu x4 x5 x6 x7 x8 x9 sr sd hm hf f4 f5 f6 f7 f8 h9
    obtain ⟨f, rfl⟩ : ∃ f, fu = f + 1 := ⟨fu - 1, by omega⟩
    have hD0 : ¬ nI D = 0 := nI_ne0 (by omega) (by omega)
    have htm := ht m (by omega)
    rw [wY_dimOf_68]
    refine br_f (nI_ge (by omega) (by omega)) ⟨zq_dd h2 h6, nm_r (zq_d1 h2 h6 (by omega)) ⟨hD0, hD0, nm_r (zq_d2 h2 h6 (by omega)) ⟨hD0, nm_r (zq_d3 h2 h6 (by omega)) ?_⟩⟩⟩
    refine zy_sat h2 h6 hc hn hr (by omega) htm (fun r sr' sd' w => ?_)
    rcases w with ⟨e, hA, hv⟩ | ⟨e, hA⟩
    · have ev := hv p s hp hs
      refine br_t e ?_
      rw [zq_2m, nI_add, nI_clamp (by omega), ev, ← htm.1, ← htm.2.1, ← htm.2.2.1]
      refine ⟨vp_in_nI (by omega) (by omega), nm_e (br_c (fun e4 => ?_) (fun e4 => br_c (fun e9 => ?_) (fun e9 => ?_)))⟩
      · have hna := zq_fl_e0 f4 e4
        refine zy_dtail (A := fun n => tr n = -1) (g := fun n => sz (n * 35 + (p * 2 + 2 - rk p + s))) (s0 := fun n => sz (n * 35 + 32)) (s1 := fun n => sz (n * 35 + 33)) (s2 := fun n => sz (n * 35 + 34)) hA f6 f7 f8 (fun y6 y7 y8 g6 g7 g8 => ?_)
        refine ih (m + 1) f 1 x5 y6 y7 y8 _ sr' sd' (by omega) (by omega) (zq_fl_1 (zq_any_y (A := fun n => tr n = -1) hA)) (zq_fl_i f5 ⟨fun _ => zq_same_1 hna, fun z => zq_same_d z (by omega)⟩) g6 g7 g8 (fun _ => ⟨m, by omega, hA, rfl⟩)
      · obtain ⟨j, hj, hAj, e9'⟩ := h9 (zq_fl_n0 f4 e4)
        refine zy_dtail (A := fun n => tr n = -1) (g := fun n => sz (n * 35 + (p * 2 + 2 - rk p + s))) (s0 := fun n => sz (n * 35 + 32)) (s1 := fun n => sz (n * 35 + 33)) (s2 := fun n => sz (n * 35 + 34)) hA f6 f7 f8 (fun y6 y7 y8 g6 g7 g8 => ?_)
        refine ih (m + 1) f x4 x5 y6 y7 y8 _ sr' sd' (by omega) (by omega) (zq_fl_i f4 ⟨fun _ => zq_any_y (A := fun n => tr n = -1) hA, fun _ => zq_fl_n0 f4 e4⟩) (zq_fl_i f5 (zq_same_y (A := fun n => tr n = -1) (g := fun n => sz (n * 35 + (p * 2 + 2 - rk p + s))) hj hAj (e9.trans e9'))) g6 g7 g8 (fun _ => ⟨j, by omega, hAj, e9'⟩)
      · obtain ⟨j, hj, hAj, e9'⟩ := h9 (zq_fl_n0 f4 e4)
        refine zy_dtail (A := fun n => tr n = -1) (g := fun n => sz (n * 35 + (p * 2 + 2 - rk p + s))) (s0 := fun n => sz (n * 35 + 32)) (s1 := fun n => sz (n * 35 + 33)) (s2 := fun n => sz (n * 35 + 34)) hA f6 f7 f8 (fun y6 y7 y8 g6 g7 g8 => ?_)
        refine ih (m + 1) f x4 0 y6 y7 y8 _ sr' sd' (by omega) (by omega) (zq_fl_i f4 ⟨fun _ => zq_any_y (A := fun n => tr n = -1) hA, fun _ => zq_fl_n0 f4 e4⟩) (zq_fl_0 (zq_same_f (A := fun n => tr n = -1) (g := fun n => sz (n * 35 + (p * 2 + 2 - rk p + s))) (i := m) (m0 := j) (by omega) (by omega) hAj hA (fun w => e9 (w.trans e9'.symm)))) g6 g7 g8 (fun _ => ⟨j, by omega, hAj, e9'⟩)
    · refine br_f e (nm_r (nI_1 m) ?_)
      refine ih (m + 1) f x4 x5 x6 x7 x8 x9 sr' sd' (by omega) (by omega) (zq_fl_i f4 (zq_any_n (A := fun n => tr n = -1) hA)) (zq_fl_i f5 (zq_same_n (A := fun n => tr n = -1) hA)) (zq_fl_i f6 (zq_eqs_n (A := fun n => tr n = -1) hA)) (zq_fl_i f7 (zq_eqs_n (A := fun n => tr n = -1) hA)) (zq_fl_i f8 (zq_eqs_n (A := fun n => tr n = -1) hA)) (fun z => ?_)
      obtain ⟨j, hj, hAj, e9⟩ := h9 ((zq_any_n (A := fun n => tr n = -1) hA).mpr z)
      exact ⟨j, by omega, hAj, e9⟩
theorem zy_dim {post : Int32 → SY → Prop} {x y : Int32} (h2 : 2 ≤ D) (h6 : D ≤ 6) (hc : c ≤ 16) (hn : ∀ i, i < c → zq_nd D i rk (K i) (X i) (Y i) (Z i)) (hr : ∀ j, j < c → rk j ≤ 2) (ht : ∀ n, n < D * D * D → zq_tb D c K X Y Z rk sz tr n)
    (no : ¬ (∃ p s, p < c ∧ x = nI p ∧ y = nI s ∧ s < rk p) → ∀ rq', post 0 (nI D, nI c, st, tp, K, X, Y, Z, dt, bd, rq', sr, sd, vr, vd, el))
    (ok : ∀ p s r, p < c → x = nI p → y = nI s → s < rk p → ∀ rq' sr' sd', zq_dr (fun n => tr n = -1) (fun n => sz (n * 35 + (p * 2 + 2 - rk p + s))) (fun n => sz (n * 35 + 32)) (fun n => sz (n * 35 + 33)) (fun n => sz (n * 35 + 34)) (D * D * D) r → post r (nI D, nI c, st, tp, K, X, Y, Z, dt, bd, rq', sr', sd', vr, vd, el)) : wpY_dimOf post (nI D, nI c, st, tp, K, X, Y, Z, dt, bd, rq, sr, sd, vr, vd, el) x y := by
  unfold wpY_dimOf
  dsimp only
  refine zq_ckl (by omega) (fun p hp ex => ?_) (fun h => no (fun ⟨p, _, hp, e, _⟩ => h ⟨p, hp, e⟩) rq)
  subst ex
  refine zy_rank hc hp hn hr (fun rq' => ?_)
  have rp := hr p hp
  refine zq_ckl (by omega) (fun s hs ey => ?_) (fun h => no ?_ rq')
  · subst ey
    refine nm_r (e' := nI (D * D * D)) (by rw [pk_mul, pk_mul]) ⟨D * D * D + 1, ?_⟩
    exact zy_dim_l h2 h6 rfl hc hn hr ht hp hs (fun r sr' sd' w => ok p s r hp rfl rfl hs rq' sr' sd' w) (D * D * D) 0 _ 0 1 1 1 1 0 sr sd (by omega) (by omega) (zq_fl_0 zq_any_0) (zq_fl_1 zq_same_0) (zq_fl_1 zq_eqs_0) (zq_fl_1 zq_eqs_0) (zq_fl_1 zq_eqs_0) (fun z => absurd z zq_any_0)
  · rintro ⟨p', s, hp', e1, e2, hs⟩
    have := (nI_eq (by omega) (by omega)).mp e1
    subst this
    exact h ⟨s, hs, e2⟩
theorem zy_syv_l {post : Int32 → SY → Prop} {j : Nat} (h2 : 2 ≤ D) (h6 : D ≤ 6) (hN : N = D * D * D) (hc : c ≤ 16) (hn : ∀ i, i < c → zq_nd D i rk (K i) (X i) (Y i) (Z i)) (hr : ∀ j, j < c → rk j ≤ 2) (ht : ∀ n, n < N → zq_tb D c K X Y Z rk sz tr n) (hj3 : j < 3)
    (ok : ∀ r sr' sd', zq_cm (fun n => tr n = -1) (fun n => nI (zq_sv D n j)) N r → post r (nI D, nI c, st, tp, K, X, Y, Z, dt, bd, rq, sr', sd', vr, vd, el)) :
    ∀ d m fu : Nat, ∀ x2 x3 x4 : Int32, ∀ sr sd : Nat → Int32, m + d = N → d < fu →
      zq_fl x2 (zq_any (fun n => tr n = -1) m) → zq_fl x3 (zq_same (fun n => tr n = -1) (fun n => nI (zq_sv D n j)) m) →
      (zq_any (fun n => tr n = -1) m → ∃ i, i < m ∧ tr i = -1 ∧ x4 = nI (zq_sv D i j)) →
      wY_symbolValue_37 post (nI j) (nI N) fu x2 x3 x4 (nI m) (nI D) (nI c) st tp K X Y Z dt bd rq sr sd vr vd el := by
  have h216 := zq_216 h6
  intro d
  induction d with
  | zero =>
    intro m fu x2 x3 x4 sr sd hm hf f2 f3 h4
    obtain ⟨f, rfl⟩ : ∃ f, fu = f + 1 := ⟨fu - 1, by omega⟩
    have e : m = N := by omega
    subst e
    rw [wY_symbolValue_37]
    refine br_t (Int32.le_refl _) (br_c (fun e2 => ok _ _ _ (Or.inr ⟨fun z => zq_fl_e0 f2 e2 z.1, rfl⟩)) (fun e2 => br_c (fun e3 => ok _ _ _ (Or.inr ⟨fun z => zq_fl_e0 f3 e3 z.2, rfl⟩)) (fun e3 => ?_)))
    obtain ⟨i, hi, hA, e4⟩ := h4 (zq_fl_n0 f2 e2)
    exact ok _ _ _ (Or.inl ⟨zq_fl_n0 f3 e3, i, hi, hA, e4⟩)
  | succ d ih =>
    intro m fu x2 x3 x4 sr sd hm hf f2 f3 h4
    obtain ⟨f, rfl⟩ : ∃ f, fu = f + 1 := ⟨fu - 1, by omega⟩
    have hD0 : ¬ nI D = 0 := nI_ne0 (by omega) (by omega)
    rw [wY_symbolValue_37]
    refine br_f (nI_ge (by omega) (by omega)) ⟨zq_dd h2 h6, nm_r (zq_d1 h2 h6 (by omega)) ⟨hD0, hD0, nm_r (zq_d2 h2 h6 (by omega)) ⟨hD0, nm_r (zq_d3 h2 h6 (by omega)) ?_⟩⟩⟩
    refine zy_sat h2 h6 hc hn hr (by omega) (ht m (by omega)) (fun r sr' sd' w => ?_)
    rcases w with ⟨e, hA, _⟩ | ⟨e, hA⟩
    · have l128 : ∀ z0, z0 = nI (zq_sv D m j) → wY_symbolValue_128 post (wY_symbolValue_37 post (nI j) (nI N) f) (nI j) x2 x3 x4 (nI N) (nI m) z0 (nI D) (nI c) st tp K X Y Z dt bd rq sr' sd' vr vd el := by
        intro z0 ez
        subst ez
        unfold wY_symbolValue_128
        refine br_c (fun e2 => nm_r (nI_1 m) ?_) (fun e2 => br_c (fun e4 => nm_r (nI_1 m) ?_) (fun e4 => nm_r (nI_1 m) ?_))
        · have hna := zq_fl_e0 f2 e2
          exact ih (m + 1) f 1 x3 _ sr' sd' (by omega) (by omega) (zq_fl_1 (zq_any_y (A := fun n => tr n = -1) hA)) (zq_fl_i f3 ⟨fun _ => zq_same_1 hna, fun z => zq_same_d z (by omega)⟩) (fun _ => ⟨m, by omega, hA, rfl⟩)
        · obtain ⟨i, hi, hAi, e4'⟩ := h4 (zq_fl_n0 f2 e2)
          exact ih (m + 1) f x2 x3 _ sr' sd' (by omega) (by omega) (zq_fl_i f2 ⟨fun _ => zq_any_y (A := fun n => tr n = -1) hA, fun _ => zq_fl_n0 f2 e2⟩) (zq_fl_i f3 (zq_same_y (A := fun n => tr n = -1) (g := fun n => nI (zq_sv D n j)) hi hAi (e4.trans e4'))) (fun _ => ⟨i, by omega, hAi, e4'⟩)
        · obtain ⟨i, hi, hAi, e4'⟩ := h4 (zq_fl_n0 f2 e2)
          exact ih (m + 1) f x2 0 _ sr' sd' (by omega) (by omega) (zq_fl_i f2 ⟨fun _ => zq_any_y (A := fun n => tr n = -1) hA, fun _ => zq_fl_n0 f2 e2⟩) (zq_fl_0 (zq_same_f (A := fun n => tr n = -1) (g := fun n => nI (zq_sv D n j)) (i := m) (m0 := i) (by omega) (by omega) hAi hA (fun w => e4 (w.trans e4'.symm)))) (fun _ => ⟨i, by omega, hAi, e4'⟩)
      refine br_t e (pk_eq j 0 (fun z => l128 _ ?_) (fun z => pk_eq j 1 (fun z1 => l128 _ ?_) (fun z1 => l128 _ ?_)))
      · unfold zq_sv; rw [if_pos z]
      · unfold zq_sv; rw [if_neg z, if_pos z1]
      · unfold zq_sv; rw [if_neg z, if_neg z1]
    · refine br_f e (nm_r (nI_1 m) ?_)
      refine ih (m + 1) f x2 x3 x4 sr' sd' (by omega) (by omega) (zq_fl_i f2 (zq_any_n (A := fun n => tr n = -1) hA)) (zq_fl_i f3 (zq_same_n (A := fun n => tr n = -1) hA)) (fun z => ?_)
      obtain ⟨i, hi, hAi, e4⟩ := h4 ((zq_any_n (A := fun n => tr n = -1) hA).mpr z)
      exact ⟨i, by omega, hAi, e4⟩
theorem zy_sye_l {post : Int32 → SY → Prop} {j j' : Nat} (h2 : 2 ≤ D) (h6 : D ≤ 6) (hN : N = D * D * D) (hc : c ≤ 16) (hn : ∀ i, i < c → zq_nd D i rk (K i) (X i) (Y i) (Z i)) (hr : ∀ j, j < c → rk j ≤ 2) (ht : ∀ n, n < N → zq_tb D c K X Y Z rk sz tr n) (hj3 : j < 3) (hj3' : j' < 3)
    (ok : (zq_any (fun n => tr n = -1) N ∧ zq_eqs (fun n => tr n = -1) (fun n => nI (zq_sv D n j)) (fun n => nI (zq_sv D n j')) N) → ∀ sr' sd', post 1 (nI D, nI c, st, tp, K, X, Y, Z, dt, bd, rq, sr', sd', vr, vd, el))
    (no : ¬ (zq_any (fun n => tr n = -1) N ∧ zq_eqs (fun n => tr n = -1) (fun n => nI (zq_sv D n j)) (fun n => nI (zq_sv D n j')) N) → ∀ sr' sd', post 0 (nI D, nI c, st, tp, K, X, Y, Z, dt, bd, rq, sr', sd', vr, vd, el)) :
    ∀ d m fu : Nat, ∀ x3 x4 : Int32, ∀ sr sd : Nat → Int32, m + d = N → d < fu →
      zq_fl x3 (zq_any (fun n => tr n = -1) m) → zq_fl x4 (zq_eqs (fun n => tr n = -1) (fun n => nI (zq_sv D n j)) (fun n => nI (zq_sv D n j')) m) →
      wY_symbolsEqual_44 post (nI j) (nI j') (nI N) fu x3 x4 (nI m) (nI D) (nI c) st tp K X Y Z dt bd rq sr sd vr vd el := by
  have h216 := zq_216 h6
  intro d
  induction d with
  | zero =>
    intro m fu x3 x4 sr sd hm hf f3 f4
    obtain ⟨f, rfl⟩ : ∃ f, fu = f + 1 := ⟨fu - 1, by omega⟩
    have e : m = N := by omega
    subst e
    rw [wY_symbolsEqual_44]
    exact br_t (Int32.le_refl _) (br_c (fun e3 => no (fun z => zq_fl_e0 f3 e3 z.1) sr sd) (fun e3 => br_c (fun e4 => no (fun z => zq_fl_e0 f4 e4 z.2) sr sd) (fun e4 => ok ⟨zq_fl_n0 f3 e3, zq_fl_n0 f4 e4⟩ sr sd)))
  | succ d ih =>
    intro m fu x3 x4 sr sd hm hf f3 f4
    obtain ⟨f, rfl⟩ : ∃ f, fu = f + 1 := ⟨fu - 1, by omega⟩
    have hD0 : ¬ nI D = 0 := nI_ne0 (by omega) (by omega)
    rw [wY_symbolsEqual_44]
    refine br_f (nI_ge (by omega) (by omega)) ⟨zq_dd h2 h6, nm_r (zq_d1 h2 h6 (by omega)) ⟨hD0, hD0, nm_r (zq_d2 h2 h6 (by omega)) ⟨hD0, nm_r (zq_d3 h2 h6 (by omega)) ?_⟩⟩⟩
    refine zy_sat h2 h6 hc hn hr (by omega) (ht m (by omega)) (fun r sr' sd' w => ?_)
    rcases w with ⟨e, hA, _⟩ | ⟨e, hA⟩
    · have l160 : ∀ y0 z0, y0 = nI (zq_sv D m j) → z0 = nI (zq_sv D m j') → wY_symbolsEqual_160 post (wY_symbolsEqual_44 post (nI j) (nI j') (nI N) f) (nI j) (nI j') 1 x4 (nI N) (nI m) y0 z0 (nI D) (nI c) st tp K X Y Z dt bd rq sr' sd' vr vd el := by
        intro y0 z0 ey ez
        subst ey ez
        unfold wY_symbolsEqual_160
        refine br_c (fun e4 => nm_r (nI_1 m) ?_) (fun e4 => nm_r (nI_1 m) ?_)
        · exact ih (m + 1) f 1 x4 sr' sd' (by omega) (by omega) (zq_fl_1 (zq_any_y (A := fun n => tr n = -1) hA)) (zq_fl_i f4 (zq_eqs_y (A := fun n => tr n = -1) (g := fun n => nI (zq_sv D n j)) (f := fun n => nI (zq_sv D n j')) e4))
        · exact ih (m + 1) f 1 0 sr' sd' (by omega) (by omega) (zq_fl_1 (zq_any_y (A := fun n => tr n = -1) hA)) (zq_fl_0 (zq_eqs_f (A := fun n => tr n = -1) (g := fun n => nI (zq_sv D n j)) (f := fun n => nI (zq_sv D n j')) (i := m) hA (by omega) e4))
      have l137 : ∀ y0, y0 = nI (zq_sv D m j) → wY_symbolsEqual_137 post (wY_symbolsEqual_44 post (nI j) (nI j') (nI N) f) (nI j) (nI j') 1 x4 (nI N) (nI m) (nI (m / (D * D) + 1)) (nI (m / D % D + 1)) (nI (m % D + 1)) y0 (nI D) (nI c) st tp K X Y Z dt bd rq sr' sd' vr vd el := by
        intro y0 ey
        unfold wY_symbolsEqual_137
        refine pk_eq j' 0 (fun z => l160 _ _ ey ?_) (fun z => pk_eq j' 1 (fun z1 => l160 _ _ ey ?_) (fun z1 => l160 _ _ ey ?_))
        · unfold zq_sv; rw [if_pos z]
        · unfold zq_sv; rw [if_neg z, if_pos z1]
        · unfold zq_sv; rw [if_neg z, if_neg z1]
      refine br_t e (pk_eq j 0 (fun z => l137 _ ?_) (fun z => pk_eq j 1 (fun z1 => l137 _ ?_) (fun z1 => l137 _ ?_)))
      · unfold zq_sv; rw [if_pos z]
      · unfold zq_sv; rw [if_neg z, if_pos z1]
      · unfold zq_sv; rw [if_neg z, if_neg z1]
    · refine br_f e (nm_r (nI_1 m) ?_)
      exact ih (m + 1) f x3 x4 sr' sd' (by omega) (by omega) (zq_fl_i f3 (zq_any_n (A := fun n => tr n = -1) hA)) (zq_fl_i f4 (zq_eqs_n (A := fun n => tr n = -1) hA))
end
end
section
/-! the relation -/
def zq_inv (D c : Nat) (rk : Nat → Nat) (K X Y Z rs sz tr bd : Nat → Int32) : Prop :=
  2 ≤ D ∧ D ≤ 6 ∧ c ≤ 16 ∧ (∀ j, j < c → rs j = nI (rk j) ∧ rk j ≤ 2) ∧ (∀ i, i < c → zq_nd D i rk (K i) (X i) (Y i) (Z i)) ∧ (∀ n, n < D * D * D → zq_tb D c K X Y Z rk sz tr n) ∧
  (∃ b0 b1 b2, b0 < D ∧ b1 < D ∧ b2 < D ∧ bd 0 = nI (b0 + 1) ∧ bd 1 = nI (b1 + 1) ∧ bd 2 = nI (b2 + 1))
def zq_run (D c : Nat) (rk : Nat → Nat) (st cp tp : Int32) (sz bd vr vd : Nat → Int32) : Prop :=
  (st = 0 ∧ cp = 0) ∨ ∃ (t : Nat) (R C : Nat → Nat) (b0 b1 b2 : Nat), t ≤ c ∧ cp = nI t ∧ ((st = 1 ∧ t = c) ∨ (st = 2 ∧ t < c ∧ tp = nI t)) ∧
    b0 < D ∧ b1 < D ∧ b2 < D ∧ bd 0 = nI (b0 + 1) ∧ bd 1 = nI (b1 + 1) ∧ bd 2 = nI (b2 + 1) ∧
    ∀ i, i < t → zq_good D (rk i) (R i) (C i) ∧ sz (((b0 * D + b1) * D + b2) * 35 + i * 2) = nI (R i) ∧ sz (((b0 * D + b1) * D + b2) * 35 + i * 2 + 1) = nI (C i) ∧
      vr i = nI (rk i) ∧ vd (2 * i) = nI (zq_l0 (rk i) (R i) (C i)) ∧ vd (2 * i + 1) = nI (zq_l1 (rk i) (C i))
def i_Rel (_ : Nat) (u : SX) (v : SY) : Prop :=
  ∃ (D c : Nat) (rk : Nat → Nat) (st cp tp : Int32) (K X Y Z rs dt sz tr bd el rq sr sd vr vd : Nat → Int32),
    u = (nI D, nI (D * D * D), nI c, st, cp, K, X, Y, Z, rs, dt, sz, tr, bd, el) ∧ v = (nI D, nI c, st, tp, K, X, Y, Z, dt, bd, rq, sr, sd, vr, vd, el) ∧ zq_inv D c rk K X Y Z rs sz tr bd ∧ zq_run D c rk st cp tp sz bd vr vd
theorem i_up {k : Nat} {u : SX} {v : SY} (h : i_Rel k u v) : i_Rel (k + 5) u v := h
theorem zr_mk {k D c : Nat} {rk : Nat → Nat} {st cp tp : Int32} {K X Y Z rs dt sz tr bd el rq sr sd vr vd : Nat → Int32} (h : zq_inv D c rk K X Y Z rs sz tr bd) (h' : zq_run D c rk st cp tp sz bd vr vd) : i_Rel k (nI D, nI (D * D * D), nI c, st, cp, K, X, Y, Z, rs, dt, sz, tr, bd, el) (nI D, nI c, st, tp, K, X, Y, Z, dt, bd, rq, sr, sd, vr, vd, el) :=
  ⟨D, c, rk, st, cp, tp, K, X, Y, Z, rs, dt, sz, tr, bd, el, rq, sr, sd, vr, vd, rfl, rfl, h, h'⟩
theorem zr_add {D c r : Nat} {rk : Nat → Nat} {k x y z : Int32} {K X Y Z rs sz tr bd sz' tr' : Nat → Int32} (h : zq_inv D c rk K X Y Z rs sz tr bd) (hc : c < 16) (hnd : zq_nd D c (zq_ex c r rk) k x y z) (r2 : r ≤ 2)
    (ht : ∀ n, n < D * D * D → zq_tb D (c + 1) (upd K c k) (upd X c x) (upd Y c y) (upd Z c z) (zq_ex c r rk) sz' tr' n) : zq_inv D (c + 1) (zq_ex c r rk) (upd K c k) (upd X c x) (upd Y c y) (upd Z c z) (upd rs c (nI r)) sz' tr' bd := by
  obtain ⟨h2, h6, _, hr, hn, _, hb⟩ := h
  refine ⟨h2, h6, by omega, fun j hj => ?_, fun i hi => ?_, ht, hb⟩
  · by_cases e : j = c
    · subst e
      rw [pk_us, zq_ex_s]
      exact ⟨rfl, r2⟩
    · rw [pk_un e, zq_ex_n (by omega)]
      exact hr j (by omega)
  · by_cases e : i = c
    · subst e
      rw [pk_us, pk_us, pk_us, pk_us]
      exact hnd
    · rw [pk_un (f := K) e, pk_un (f := X) e, pk_un (f := Y) e, pk_un (f := Z) e]
      exact zq_nd_c (hn i (by omega)) (fun j hj => zq_ex_n (by omega))
/-- cells of an admissible instantiation are not 0 -/
theorem zr_nz {D c n i : Nat} {rk : Nat → Nat} {K X Y Z sz tr : Nat → Int32} (h6 : D ≤ 6) (h : zq_tb D c K X Y Z rk sz tr n) (hc : c ≤ 16) (ht : tr n = -1) (hi : i < c) : ¬ sz (n * 35 + i * 2) = 0 ∧ ¬ sz (n * 35 + i * 2 + 1) = 0 := by
  obtain ⟨t1, t2, t3, t, R, C, t4, t5, t6⟩ := h
  have etc : t = c := by
    rcases t6 with ⟨e, _⟩ | ⟨_, e⟩
    · exact e
    · rw [e] at ht
      exact absurd ht (zq_m1 (by have := t4.1; omega))
  subst etc
  have g := (t4.2.1 i hi).1
  unfold zq_good at g
  rw [(t5 i hi).1, (t5 i hi).2]
  exact ⟨nI_ne0 (by omega) (by omega), nI_ne0 (by omega) (by omega)⟩
/-- the symbol cells -/
theorem zr_sy {D c n j : Nat} {rk : Nat → Nat} {K X Y Z sz tr : Nat → Int32} (h : zq_tb D c K X Y Z rk sz tr n) (hj : j < 3) : sz (n * 35 + (32 + j)) = nI (zq_sv D n j) := by
  obtain ⟨t1, t2, t3, _⟩ := h
  have e : j = 0 ∨ j = 1 ∨ j = 2 := by omega
  rcases e with rfl | rfl | rfl
  · exact t1
  · exact t2
  · exact t3
theorem zr_sv {D n j : Nat} (h2 : 2 ≤ D) (h6 : D ≤ 6) (hn : n < D * D * D) : 1 ≤ zq_sv D n j ∧ zq_sv D n j ≤ 6 := by
  have hd := zq_dec h2 h6 hn
  have a1 : n / (D * D) + 1 ≤ 6 := Nat.le_trans hd.1 h6
  unfold zq_sv
  split
  · exact ⟨Nat.succ_le_succ (Nat.zero_le _), a1⟩
  · split
    · exact ⟨Nat.succ_le_succ (Nat.zero_le _), Nat.le_trans hd.2.1 h6⟩
    · exact ⟨Nat.succ_le_succ (Nat.zero_le _), Nat.le_trans hd.2.2.1 h6⟩
/-! run -/
section
variable {mx ins cnt st cp : Int32} {K X Y Z rs dt sz tr bd el : Nat → Int32} {D c n t a0 a1 a2 : Nat} {rk R C : Nat → Nat}
theorem zx_run_l {post : Int32 → SX → Prop} {x2 : Int32} (h6 : D ≤ 6) (hn216 : n < 216) (htc : t ≤ 16) (hn : ∀ i, i < t → zq_nd D i rk (K i) (X i) (Y i) (Z i)) (hr : ∀ j, j < t → rs j = nI (rk j) ∧ rk j ≤ 2)
    (hc : ∀ j, j < t → sz (n * 35 + j * 2) = nI (R j) ∧ sz (n * 35 + j * 2 + 1) = nI (C j)) (hg : ∀ j, j < t → zq_good D (rk j) (R j) (C j) ∧ zq_ru (K j) (X j) (Y j) (Z j) a0 a1 a2 rk R C = some (R j, C j))
    (h0 : x2 = 0 → wX_run_74 post x2 (nI t) 1 mx ins cnt st cp K X Y Z rs dt sz tr bd (zq_ev K X Y dt rk R C el t)) (h1 : ¬ x2 = 0 → wX_run_74 post x2 (nI t) 2 mx ins cnt st cp K X Y Z rs dt sz tr bd (zq_ev K X Y dt rk R C el t)) :
    ∀ d i fu : Nat, i + d = t → d < fu → wX_run_42 post (nI n) x2 (nI t) fu (nI i) mx ins cnt st cp K X Y Z rs dt sz tr bd (zq_ev K X Y dt rk R C el i) := by
  intro d
  induction d with
  | zero =>
    intro i fu hi hf
    obtain ⟨f, rfl⟩ : ∃ f, fu = f + 1 := ⟨fu - 1, by omega⟩
    have e : i = t := by omega
    subst e
    rw [wX_run_42]
    exact br_t (Int32.le_refl _) (br_c h0 h1)
  | succ d ih =>
    intro i fu hi hf
    obtain ⟨f, rfl⟩ : ∃ f, fu = f + 1 := ⟨fu - 1, by omega⟩
    rw [wX_run_42]
    refine br_f (nI_ge (by omega) (by omega)) ?_
    rw [zq_m35]
    refine zx_compute (R := R) (C := C) (rk := rk) (by omega) (by omega) (hn i (by omega)) (fun j hj => hr j (by omega)) (fun j hj => hc j (by omega)) (fun j hj => ?_) (hg i (by omega)).2 ?_
    · have g := (hg j (by omega)).1
      unfold zq_good at g
      omega
    · exact nm_r (nI_1 i) (ih (i + 1) f (by omega) (by omega))
end
section
variable {mx cnt st tp : Int32} {K X Y Z dt bd rq sr sd vr vd el : Nat → Int32} {D c t a0 a1 a2 : Nat} {rk R C : Nat → Nat}
theorem zy_run_l {post : Int32 → SY → Prop} (h6 : D ≤ 6) (hc : c ≤ 16) (htc : t ≤ c) (hn : ∀ i, i < t → zq_nd D i rk (K i) (X i) (Y i) (Z i)) (hA : zq_ag rk R C t sr sd)
    (hg : ∀ j, j < t → zq_good D (rk j) (R j) (C j) ∧ zq_ru (K j) (X j) (Y j) (Z j) a0 a1 a2 rk R C = some (R j, C j))
    (h1 : t = c → ∀ vr' vd', zq_ag rk R C t vr' vd' → post 1 (mx, nI c, 1, -1, K, X, Y, Z, dt, bd, rq, sr, sd, vr', vd', zq_ev K X Y dt rk R C el t)) (h2 : t < c → ∀ vr' vd', zq_ag rk R C t vr' vd' → post 0 (mx, nI c, 2, nI t, K, X, Y, Z, dt, bd, rq, sr, sd, vr', vd', zq_ev K X Y dt rk R C el t)) :
    ∀ d i fu : Nat, ∀ vr vd : Nat → Int32, i + d = t → d < fu → zq_ag rk R C i vr vd → wY_run_25 post (nI t) fu (nI i) mx (nI c) st tp K X Y Z dt bd rq sr sd vr vd (zq_ev K X Y dt rk R C el i) := by
  intro d
  induction d with
  | zero =>
    intro i fu vr vd hi hf hv
    obtain ⟨f, rfl⟩ : ∃ f, fu = f + 1 := ⟨fu - 1, by omega⟩
    have e : i = t := by omega
    subst e
    rw [wY_run_25]
    exact br_t (Int32.le_refl _) (pk_le c i (fun z => h1 (by omega) vr vd hv) (fun z => h2 z vr vd hv))
  | succ d ih =>
    intro i fu vr vd hi hf hv
    obtain ⟨f, rfl⟩ : ∃ f, fu = f + 1 := ⟨fu - 1, by omega⟩
    have ai := hA i (by omega)
    have vi : vp_in (nI i) 16 := vp_in_nI (by omega) (by omega)
    have v0 : vp_in (nI (2 * i)) 32 := vp_in_nI (by omega) (by omega)
    have v1 : vp_in (nI (2 * i + 1)) 32 := vp_in_nI (by omega) (by omega)
    rw [wY_run_25]
    refine br_f (nI_ge (by omega) (by omega)) ?_
    refine zy_eval (R := R) (C := C) (rk := rk) h6 (by omega) (hn i (by omega)) (fun j hj => (hg j (by omega)).1) (hg i (by omega)).2 (fun j hj => hA j (by omega)) ?_
    dsimp only
    rw [zq_2m, nI_1 (2 * i), nI_clamp (n := i) (by omega), nI_clamp (n := 2 * i) (by omega), nI_clamp (n := 2 * i + 1) (by omega), ai.1, ai.2.1, ai.2.2]
    refine ⟨vi, vi, nm_e ⟨v0, v0, nm_e ⟨v1, v1, nm_e (nm_r (nI_1 i) ?_)⟩⟩⟩
    refine ih (i + 1) f _ _ (by omega) (by omega) (fun j hj => ?_)
    by_cases e : j = i
    · subst e
      rw [pk_us, pk_us, pk_un (by omega), pk_us]
      exact ⟨rfl, rfl, rfl⟩
    · rw [pk_un e, pk_un (by omega), pk_un (by omega), pk_un (by omega), pk_un (by omega)]
      exact hv j (by omega)
theorem zy_rd {post : Int32 → Prop} {x : Int32} (hc : c ≤ 16) (ht : t ≤ c) (hs : (st = 1 ∧ t = c) ∨ (st = 2 ∧ t < c ∧ tp = nI t)) (ok : ∀ j, j < t → x = nI j → post 1) (no : ¬ (∃ j, j < t ∧ x = nI j) → post 0) : wpY_readable post (mx, nI c, st, tp, K, X, Y, Z, dt, bd, rq, sr, sd, vr, vd, el) x := by
  unfold wpY_readable
  dsimp only
  refine zq_ckl (by omega) (fun j hj e => ?_) (fun h => no (fun ⟨j, hj, e⟩ => h ⟨j, by omega, e⟩))
  rcases hs with ⟨rfl, rfl⟩ | ⟨rfl, hlt, rfl⟩
  · exact br_t rfl (ok j hj e)
  · subst e
    refine br_f (by decide) (br_t rfl (pk_le t j (fun z => no ?_) (fun z => ok j z rfl)))
    rintro ⟨j', hj', e'⟩
    have := (nI_eq (by omega) (by omega)).mp e'
    omega
theorem zy_rd0 {post : Int32 → Prop} {x : Int32} (hs : st = 0) (no : post 0) : wpY_readable post (mx, cnt, st, tp, K, X, Y, Z, dt, bd, rq, sr, sd, vr, vd, el) x := by
  unfold wpY_readable
  dsimp only
  subst hs
  exact br_c (fun _ => no) (fun _ => br_c (fun _ => br_f (by decide) (br_f (by decide) no)) (fun _ => no))
end
end
section
/-! what is owed -/
theorem zq_ck2 {x : Int32} {A B : Prop} (ok : ∀ j, j < 3 → x = nI j → A) (no : ¬ (∃ j, j < 3 ∧ x = nI j) → B) : (x < 0 → B) ∧ (¬ x < 0 → ((x ≤ 2 → A) ∧ (¬ x ≤ 2 → B))) := by
  refine br_c (fun h => no ?_) (fun h => br_c (fun h1 => ?_) (fun h1 => no ?_))
  · intro ⟨j, hj, e⟩
    rw [e] at h
    exact nI_pos (by omega) h
  · obtain ⟨j, hj, rfl⟩ := nI_of h
    have w : j ≤ 2 := (nI_leI (b := 2) hj (by omega)).mp h1
    exact ok j (by omega) rfl
  · intro ⟨j, hj, e⟩
    rw [e] at h1
    exact h1 (nI_le (b := 2) (by omega) (by omega))
theorem zq_ck3 {x : Int32} {A B : Prop} (ok : ∀ j, j < 3 → x = nI j → A) (no : ¬ (∃ j, j < 3 ∧ x = nI j) → B) : (x < 0 → B) ∧ (¬ x < 0 → ((2 < x → B) ∧ (¬ 2 < x → A))) := by
  refine br_c (fun h => no ?_) (fun h => br_c (fun h1 => no ?_) (fun h1 => ?_))
  · intro ⟨j, hj, e⟩
    rw [e] at h
    exact nI_pos (by omega) h
  · intro ⟨j, hj, e⟩
    rw [e] at h1
    exact nI_nlt (b := j) (a := 2) (by omega) (by omega) h1
  · obtain ⟨j, hj, rfl⟩ := nI_of h
    have w : ¬ 2 < j := fun z => h1 ((nI_ltI (a := 2) (by omega) hj).mpr z)
    exact ok j (by omega) rfl
theorem i_vc0 (k0 : Int32) : wpX_init (fun u => wpY_init (fun v => i_Rel 1 u v) k0) k0 := by
  refine zx_init (fun D sz' tr' h2 h6 hk hE => ?_)
  have main : i_Rel 1 (nI D, nI (D * D * D), 0, 0, 0, (fun _ => 0), (fun _ => 0), (fun _ => 0), (fun _ => 0), (fun _ => 0), (fun _ => 0), sz', tr', upd (upd (upd (fun _ => 0) 0 1) 1 1) 2 1, (fun _ => 0)) (nI D, 0, 0, -1, (fun _ => 0), (fun _ => 0), (fun _ => 0), (fun _ => 0), (fun _ => 0), upd (upd (upd (fun _ => 0) 0 1) 1 1) 2 1, (fun _ => 0), (fun _ => 0), (fun _ => 0), (fun _ => 0), (fun _ => 0), (fun _ => 0)) := by
    refine zr_mk (D := D) (c := 0) (rk := fun _ => 0) (st := 0) (cp := 0) (tp := -1) ⟨h2, h6, by omega, fun j hj => absurd hj (by omega), fun j hj => absurd hj (by omega), fun n hn => ?_, 0, 0, 0, by omega, by omega, by omega, rfl, rfl, rfl⟩ (Or.inl ⟨rfl, rfl⟩)
    obtain ⟨e1, e2, e3, e4⟩ := hE n hn
    exact ⟨e2, e3, e4, 0, fun _ => 0, fun _ => 0, ⟨Nat.le_refl _, fun i hi => absurd hi (by omega), fun z => absurd z (by omega)⟩, fun i hi => absurd hi (by omega), Or.inl ⟨rfl, e1⟩⟩
  unfold wpY_init
  rcases hk with ⟨q2, q6, e⟩ | ⟨q2, q6, e⟩ | ⟨q2, e⟩
  · subst e
    refine br_t q2 (br_t q6 ?_)
    unfold wY_init_123
    exact nm_e (nm_e (nm_e main))
  · subst e
    refine br_t q2 (br_f q6 ?_)
    unfold wY_init_123
    exact nm_e (nm_e (nm_e main))
  · subst e
    refine br_f q2 ?_
    unfold wY_init_123
    exact nm_e (nm_e (nm_e main))
theorem i_vc_addNode {k : Nat} {u : SX} {v : SY} (I : i_Rel k u v) (hk : k + 5 ≤ 2561) (v1 : Int32) (v2 : Int32) (v3 : Int32) (v4 : Int32) : wpX_addNode (fun r u' => wpY_addNode (fun r' v' => r' = r ∧ i_Rel (k + 5) u' v') v v1 v2 v3 v4) u v1 v2 v3 v4 := by
  obtain ⟨D, c, rk, st, cp, tp, K, X, Y, Z, rs, dt, sz, tr, bd, el, rq, sr, sd, vr, vd, rfl, rfl, hI, hR⟩ := I
  have hI' := hI
  obtain ⟨h2, h6, hc, hr, hn, ht, hb⟩ := hI'
  have hr2 : ∀ j, j < c → rk j ≤ 2 := fun j hj => (hr j hj).2
  refine zx_add h2 h6 hc hr hn ht (fun e => ?_) (fun h hv => ?_) (fun h hv r dt' sz' tr' hnd r2 ed ht' => ?_)
  · exact zy_add h6 hc hr2 hn (fun _ => ⟨rfl, zr_mk hI hR⟩) (fun h _ _ => absurd h (by omega)) (fun h _ _ _ _ => absurd h (by omega))
  · exact zy_add h6 hc hr2 hn (fun e => absurd e (by omega)) (fun _ _ rq' => ⟨rfl, zr_mk hI hR⟩) (fun _ hv' _ _ _ => absurd hv' hv)
  · refine zy_add h6 hc hr2 hn (fun e => absurd e (by omega)) (fun _ hv' _ => absurd hv hv') (fun _ _ rq' dt'' ed' => ⟨rfl, ?_⟩)
    rw [ed', ← ed]
    exact zr_mk (zr_add hI h hnd r2 ht') (Or.inl ⟨rfl, rfl⟩)
theorem i_vc_rankOf {k : Nat} {u : SX} {v : SY} (I : i_Rel k u v) (hk : k + 5 ≤ 2561) (v1 : Int32) : wpX_rankOf (fun r => wpY_rankOf (fun r' v' => r' = r ∧ i_Rel (k + 5) u v') v v1) u v1 := by
  obtain ⟨D, c, rk, st, cp, tp, K, X, Y, Z, rs, dt, sz, tr, bd, el, rq, sr, sd, vr, vd, rfl, rfl, hI, hR⟩ := I
  have hI' := hI
  obtain ⟨h2, h6, hc, hr, hn, ht, hb⟩ := hI'
  have hr2 : ∀ j, j < c → rk j ≤ 2 := fun j hj => (hr j hj).2
  unfold wpX_rankOf
  dsimp only
  refine zx_isn hc (fun j hj e => br_f (by decide) ?_) (fun h => br_t rfl ?_)
  · subst e
    rw [nI_clamp (by omega), (hr j hj).1]
    exact ⟨vp_in_nI (by omega) (by omega), zy_rank hc hj hn hr2 (fun rq' => ⟨rfl, zr_mk hI hR⟩)⟩
  · unfold wpY_rankOf
    dsimp only
    exact zq_ckl (by omega) (fun j hj e => absurd ⟨j, hj, e⟩ h) (fun _ => ⟨rfl, zr_mk hI hR⟩)
theorem i_vc_accepted {k : Nat} {u : SX} {v : SY} (I : i_Rel k u v) (hk : k + 5 ≤ 2561) : wpX_accepted (fun r => wpY_accepted (fun r' v' => r' = r ∧ i_Rel (k + 5) u v') v) u := by
  obtain ⟨D, c, rk, st, cp, tp, K, X, Y, Z, rs, dt, sz, tr, bd, el, rq, sr, sd, vr, vd, rfl, rfl, hI, hR⟩ := I
  have hI' := hI
  obtain ⟨h2, h6, hc, hr, hn, ht, hb⟩ := hI'
  have hr2 : ∀ j, j < c → rk j ≤ 2 := fun j hj => (hr j hj).2
  refine zx_acc (zq_216 h6) (fun ha => ?_) (fun ha => ?_)
  · exact zy_acc h2 h6 hc hn hr2 ht (fun _ sr' sd' => ⟨rfl, zr_mk hI hR⟩) (fun z => absurd ha z)
  · exact zy_acc h2 h6 hc hn hr2 ht (fun z => absurd z ha) (fun _ sr' sd' => ⟨rfl, zr_mk hI hR⟩)
section
variable {mx cnt st tp : Int32} {K X Y Z dt bd rq sr sd vr vd el : Nat → Int32} {sz tr : Nat → Int32} {D c : Nat} {rk : Nat → Nat}
theorem zy_adm {post : Int32 → SY → Prop} {x y z : Int32} (h2 : 2 ≤ D) (h6 : D ≤ 6) (hc : c ≤ 16) (hn : ∀ i, i < c → zq_nd D i rk (K i) (X i) (Y i) (Z i)) (hr : ∀ j, j < c → rk j ≤ 2) (ht : ∀ n, n < D * D * D → zq_tb D c K X Y Z rk sz tr n)
    (ok : ∀ a b d, a < D → b < D → d < D → x = nI (a + 1) → y = nI (b + 1) → z = nI (d + 1) → tr ((a * D + b) * D + d) = -1 → ∀ sr' sd', post 1 (nI D, nI c, st, tp, K, X, Y, Z, dt, bd, rq, sr', sd', vr, vd, el))
    (ng : ∀ a b d, a < D → b < D → d < D → x = nI (a + 1) → y = nI (b + 1) → z = nI (d + 1) → ¬ tr ((a * D + b) * D + d) = -1 → ∀ sr' sd', post 0 (nI D, nI c, st, tp, K, X, Y, Z, dt, bd, rq, sr', sd', vr, vd, el))
    (no : ¬ ((∃ a, a < D ∧ x = nI (a + 1)) ∧ (∃ a, a < D ∧ y = nI (a + 1)) ∧ (∃ a, a < D ∧ z = nI (a + 1))) → post 0 (nI D, nI c, st, tp, K, X, Y, Z, dt, bd, rq, sr, sd, vr, vd, el)) : wpY_admissible post (nI D, nI c, st, tp, K, X, Y, Z, dt, bd, rq, sr, sd, vr, vd, el) x y z := by
  unfold wpY_admissible
  dsimp only
  refine zq_szl (by omega) (fun a ha ea => zq_szl (by omega) (fun b hb eb => zq_sze (by omega) (fun d hd ed => ?_) (fun h => no (fun w => h w.2.2))) (fun h => no (fun w => h w.2.1))) (fun h => no (fun w => h w.1))
  have en := zq_enc h2 h6 ha hb hd
  have key : ∀ post' : Int32 → SY → Prop, (∀ r sr' sd', ((r = nI c ∧ tr ((a * D + b) * D + d) = -1 ∧ ∀ i s, i < c → s < rk i → sd' (2 * i + s) = sz (((a * D + b) * D + d) * 35 + (i * 2 + 2 - rk i + s))) ∨ (¬ r = nI c ∧ ¬ tr ((a * D + b) * D + d) = -1)) → post' r (nI D, nI c, st, tp, K, X, Y, Z, dt, bd, rq, sr', sd', vr, vd, el)) → wpY_shapes post' (nI D, nI c, st, tp, K, X, Y, Z, dt, bd, rq, sr, sd, vr, vd, el) x y z := by
    intro post' hp'
    have W := zy_sat (sr := sr) (sd := sd) h2 h6 hc hn hr en.1 (ht _ en.1) hp'
    rw [en.2.1, en.2.2.1, en.2.2.2, ← ea, ← eb, ← ed] at W
    exact W
  refine key _ (fun r sr' sd' w => ?_)
  rcases w with ⟨e, hA, _⟩ | ⟨e, hA⟩
  · exact br_t e (ok a b d ha hb hd ea eb ed hA sr' sd')
  · exact br_f e (ng a b d ha hb hd ea eb ed hA sr' sd')
end
theorem i_vc_admissible {k : Nat} {u : SX} {v : SY} (I : i_Rel k u v) (hk : k + 5 ≤ 2561) (v1 : Int32) (v2 : Int32) (v3 : Int32) : wpX_admissible (fun r => wpY_admissible (fun r' v' => r' = r ∧ i_Rel (k + 5) u v') v v1 v2 v3) u v1 v2 v3 := by
  obtain ⟨D, c, rk, st, cp, tp, K, X, Y, Z, rs, dt, sz, tr, bd, el, rq, sr, sd, vr, vd, rfl, rfl, hI, hR⟩ := I
  have hI' := hI
  obtain ⟨h2, h6, hc, hr, hn, ht, hb⟩ := hI'
  have hr2 : ∀ j, j < c → rk j ≤ 2 := fun j hj => (hr j hj).2
  have h216 := zq_216 h6
  have Yno : ¬ ((∃ a, a < D ∧ v1 = nI (a + 1)) ∧ (∃ a, a < D ∧ v2 = nI (a + 1)) ∧ (∃ a, a < D ∧ v3 = nI (a + 1))) → wpY_admissible (fun r' v' => r' = 0 ∧ i_Rel (k + 5) (nI D, nI (D * D * D), nI c, st, cp, K, X, Y, Z, rs, dt, sz, tr, bd, el) v') (nI D, nI c, st, tp, K, X, Y, Z, dt, bd, rq, sr, sd, vr, vd, el) v1 v2 v3 := by
    intro h
    exact zy_adm h2 h6 hc hn hr2 ht (fun a b d ha hb hd ea eb ed _ => absurd ⟨⟨a, ha, ea⟩, ⟨b, hb, eb⟩, ⟨d, hd, ed⟩⟩ h) (fun a b d ha hb hd ea eb ed _ => absurd ⟨⟨a, ha, ea⟩, ⟨b, hb, eb⟩, ⟨d, hd, ed⟩⟩ h) (fun _ => ⟨rfl, zr_mk hI hR⟩)
  unfold wpX_admissible
  dsimp only
  refine zx_isz h6 (fun a ha ea => br_f (by decide) (zx_isz h6 (fun b hb eb => br_f (by decide) (zx_isz h6 (fun d hd ed => br_f (by decide) ?_) (fun h => br_t rfl (Yno (fun w => h w.2.2))))) (fun h => br_t rfl (Yno (fun w => h w.2.1))))) (fun h => br_t rfl (Yno (fun w => h w.1)))
  subst ea eb ed
  refine zx_iof ?_
  have en := zq_enc h2 h6 ha hb hd
  have inj : ∀ a b, a < D → b < D → nI (a + 1) = nI (b + 1) → a = b := fun a b ha hb e => by
    have w := (nI_eq (by omega) (by omega)).mp e
    omega
  rw [nI_clamp (by omega)]
  refine ⟨vp_in_nI (by omega) (by omega), br_c (fun hA => ?_) (fun hA => ?_)⟩
  · refine zy_adm h2 h6 hc hn hr2 ht (fun a' b' d' ha' hb' hd' ea eb ed _ sr' sd' => ⟨rfl, zr_mk hI hR⟩) (fun a' b' d' ha' hb' hd' ea eb ed hA' => ?_) (fun h => absurd ⟨⟨a, ha, rfl⟩, ⟨b, hb, rfl⟩, ⟨d, hd, rfl⟩⟩ h)
    rw [inj a a' ha ha' ea, inj b b' hb hb' eb, inj d d' hd hd' ed] at hA
    exact absurd hA hA'
  · refine zy_adm h2 h6 hc hn hr2 ht (fun a' b' d' ha' hb' hd' ea eb ed hA' => ?_) (fun a' b' d' ha' hb' hd' ea eb ed _ sr' sd' => ⟨rfl, zr_mk hI hR⟩) (fun h => absurd ⟨⟨a, ha, rfl⟩, ⟨b, hb, rfl⟩, ⟨d, hd, rfl⟩⟩ h)
    rw [inj a a' ha ha' ea, inj b b' hb hb' eb, inj d d' hd hd' ed] at hA
    exact absurd hA' hA
theorem i_vc_dimOf {k : Nat} {u : SX} {v : SY} (I : i_Rel k u v) (hk : k + 5 ≤ 2561) (v1 : Int32) (v2 : Int32) : wpX_dimOf (fun r => wpY_dimOf (fun r' v' => r' = r ∧ i_Rel (k + 5) u v') v v1 v2) u v1 v2 := by
  obtain ⟨D, c, rk, st, cp, tp, K, X, Y, Z, rs, dt, sz, tr, bd, el, rq, sr, sd, vr, vd, rfl, rfl, hI, hR⟩ := I
  have hI' := hI
  obtain ⟨h2, h6, hc, hr, hn, ht, hb⟩ := hI'
  have hr2 : ∀ j, j < c → rk j ≤ 2 := fun j hj => (hr j hj).2
  refine zx_dim (zq_216 h6) hc hr (fun n i hnN hA hi => zr_nz h6 (ht n hnN) hc hA hi) (fun h => ?_) (fun p s r hp ex ey hs hd => ?_)
  · exact zy_dim h2 h6 hc hn hr2 ht (fun _ rq' => ⟨rfl, zr_mk hI hR⟩) (fun p s r hp ex ey hs => absurd ⟨p, s, hp, ex, ey, hs⟩ h)
  · refine zy_dim h2 h6 hc hn hr2 ht (fun h => absurd ⟨p, s, hp, ex, ey, hs⟩ h) (fun p' s' r' hp' ex' ey' hs' rq' sr' sd' hd' => ⟨?_, zr_mk hI hR⟩)
    have rp := hr2 p hp
    have rp' := hr2 p' hp'
    have e1 := (nI_eq (by omega) (by omega)).mp (ex.symm.trans ex')
    have e2 := (nI_eq (by omega) (by omega)).mp (ey.symm.trans ey')
    subst e1 e2
    exact zq_dr_u hd hd'
theorem zr_cm {A : Nat → Prop} {g g' : Nat → Int32} {N : Nat} {r : Int32} (e : ∀ n, n < N → g n = g' n) (h : zq_cm A g N r) : zq_cm A g' N r := by
  have es : zq_same A g N ↔ zq_same A g' N := by
    constructor
    · intro z m m' h1 h1' h2 h2'
      rw [← e m h1, ← e m' h1']
      exact z m m' h1 h1' h2 h2'
    · intro z m m' h1 h1' h2 h2'
      rw [e m h1, e m' h1']
      exact z m m' h1 h1' h2 h2'
  rcases h with ⟨h1, m, h2, h3, h4⟩ | ⟨h1, h2⟩
  · exact Or.inl ⟨es.mp h1, m, h2, h3, by rw [← e m h2]; exact h4⟩
  · exact Or.inr ⟨fun z => h1 ⟨z.1, es.mpr z.2⟩, h2⟩
theorem i_vc_symbolValue {k : Nat} {u : SX} {v : SY} (I : i_Rel k u v) (hk : k + 5 ≤ 2561) (v1 : Int32) : wpX_symbolValue (fun r => wpY_symbolValue (fun r' v' => r' = r ∧ i_Rel (k + 5) u v') v v1) u v1 := by
  obtain ⟨D, c, rk, st, cp, tp, K, X, Y, Z, rs, dt, sz, tr, bd, el, rq, sr, sd, vr, vd, rfl, rfl, hI, hR⟩ := I
  have hI' := hI
  obtain ⟨h2, h6, hc, hr, hn, ht, hb⟩ := hI'
  have hr2 : ∀ j, j < c → rk j ≤ 2 := fun j hj => (hr j hj).2
  unfold wpX_symbolValue
  dsimp only
  refine zx_isy (fun j hj e => br_f (by decide) ?_) (fun h => br_t rfl ?_)
  · subst e
    rw [zq_32a]
    refine zx_cms (zq_216 h6) (by omega) (fun n hnN hA => ?_) (fun r hcm => ?_)
    · rw [zr_sy (ht n hnN) hj]
      have w := zr_sv (j := j) h2 h6 hnN
      exact nI_ne0 w.1 (by omega)
    · have hcm' := zr_cm (g' := fun n => nI (zq_sv D n j)) (fun n hnN => zr_sy (ht n hnN) hj) hcm
      unfold wpY_symbolValue
      dsimp only
      refine zq_ck2 (fun j' hj' e' => ?_) (fun h => absurd ⟨j, hj, rfl⟩ h)
      refine nm_r (e' := nI (D * D * D)) (by rw [pk_mul, pk_mul]) ⟨D * D * D + 1, ?_⟩
      exact zy_syv_l h2 h6 rfl hc hn hr2 ht hj (fun r' sr' sd' w => ⟨zq_cm_u hcm' w, zr_mk hI hR⟩) (D * D * D) 0 _ 0 1 0 sr sd (by omega) (by omega) (zq_fl_0 zq_any_0) (zq_fl_1 zq_same_0) (fun z => absurd z zq_any_0)
  · unfold wpY_symbolValue
    dsimp only
    exact zq_ck2 (fun j hj e => absurd ⟨j, hj, e⟩ h) (fun _ => ⟨rfl, zr_mk hI hR⟩)
theorem i_vc_symbolsEqual {k : Nat} {u : SX} {v : SY} (I : i_Rel k u v) (hk : k + 5 ≤ 2561) (v1 : Int32) (v2 : Int32) : wpX_symbolsEqual (fun r => wpY_symbolsEqual (fun r' v' => r' = r ∧ i_Rel (k + 5) u v') v v1 v2) u v1 v2 := by
  obtain ⟨D, c, rk, st, cp, tp, K, X, Y, Z, rs, dt, sz, tr, bd, el, rq, sr, sd, vr, vd, rfl, rfl, hI, hR⟩ := I
  have hI' := hI
  obtain ⟨h2, h6, hc, hr, hn, ht, hb⟩ := hI'
  have hr2 : ∀ j, j < c → rk j ≤ 2 := fun j hj => (hr j hj).2
  have Yno : ¬ ((∃ j, j < 3 ∧ v1 = nI j) ∧ (∃ j, j < 3 ∧ v2 = nI j)) → wpY_symbolsEqual (fun r' v' => r' = 0 ∧ i_Rel (k + 5) (nI D, nI (D * D * D), nI c, st, cp, K, X, Y, Z, rs, dt, sz, tr, bd, el) v') (nI D, nI c, st, tp, K, X, Y, Z, dt, bd, rq, sr, sd, vr, vd, el) v1 v2 := by
    intro h
    unfold wpY_symbolsEqual
    dsimp only
    exact zq_ck3 (fun j hj e => zq_ck2 (fun j' hj' e' => absurd ⟨⟨j, hj, e⟩, ⟨j', hj', e'⟩⟩ h) (fun _ => ⟨rfl, zr_mk hI hR⟩)) (fun _ => ⟨rfl, zr_mk hI hR⟩)
  unfold wpX_symbolsEqual
  dsimp only
  refine zx_isy (fun j hj e => br_f (by decide) (zx_isy (fun j' hj' e' => br_f (by decide) ?_) (fun h => br_t rfl (Yno (fun w => h w.2))))) (fun h => br_t rfl (Yno (fun w => h w.1)))
  subst e e'
  have Yy : ∀ r : Int32, ((r = 1 ∧ zq_any (fun n => tr n = -1) (D * D * D) ∧ zq_eqs (fun n => tr n = -1) (fun n => nI (zq_sv D n j)) (fun n => nI (zq_sv D n j')) (D * D * D)) ∨ (r = 0 ∧ ¬ (zq_any (fun n => tr n = -1) (D * D * D) ∧ zq_eqs (fun n => tr n = -1) (fun n => nI (zq_sv D n j)) (fun n => nI (zq_sv D n j')) (D * D * D)))) → wpY_symbolsEqual (fun r' v' => r' = r ∧ i_Rel (k + 5) (nI D, nI (D * D * D), nI c, st, cp, K, X, Y, Z, rs, dt, sz, tr, bd, el) v') (nI D, nI c, st, tp, K, X, Y, Z, dt, bd, rq, sr, sd, vr, vd, el) (nI j) (nI j') := by
    intro r hr'
    unfold wpY_symbolsEqual
    dsimp only
    refine zq_ck3 (fun _ _ _ => zq_ck2 (fun _ _ _ => ?_) (fun h => absurd ⟨j', hj', rfl⟩ h)) (fun h => absurd ⟨j, hj, rfl⟩ h)
    refine nm_r (e' := nI (D * D * D)) (by rw [pk_mul, pk_mul]) ⟨D * D * D + 1, ?_⟩
    refine zy_sye_l h2 h6 rfl hc hn hr2 ht hj hj' (fun w sr' sd' => ⟨?_, zr_mk hI hR⟩) (fun w sr' sd' => ⟨?_, zr_mk hI hR⟩) (D * D * D) 0 _ 0 1 sr sd (by omega) (by omega) (zq_fl_0 zq_any_0) (zq_fl_1 zq_eqs_0)
    · rcases hr' with ⟨e, _⟩ | ⟨e, z⟩
      · exact e.symm
      · exact absurd w z
    · rcases hr' with ⟨e, z⟩ | ⟨e, z⟩
      · exact absurd z w
      · exact e.symm
  have es : zq_eqs (fun n => tr n = -1) (fun n => sz (n * 35 + (32 + j))) (fun n => sz (n * 35 + (32 + j'))) (D * D * D) ↔ zq_eqs (fun n => tr n = -1) (fun n => nI (zq_sv D n j)) (fun n => nI (zq_sv D n j')) (D * D * D) := by
    constructor
    · intro z m h1 h3
      have w := z m h1 h3
      dsimp only at w
      rw [zr_sy (ht m h1) hj, zr_sy (ht m h1) hj'] at w
      exact w
    · intro z m h1 h3
      show sz (m * 35 + (32 + j)) = sz (m * 35 + (32 + j'))
      rw [zr_sy (ht m h1) hj, zr_sy (ht m h1) hj']
      exact z m h1 h3
  refine zx_acc (zq_216 h6) (fun ha => br_f (by decide) ?_) (fun ha => br_t rfl (Yy 0 (Or.inr ⟨rfl, fun w => ha w.1⟩)))
  rw [zq_32a, zq_32a]
  exact zx_aeq (zq_216 h6) (by omega) (by omega) (fun he => br_f (by decide) (Yy 1 (Or.inl ⟨rfl, ha, es.mp he⟩))) (fun he => br_t rfl (Yy 0 (Or.inr ⟨rfl, fun w => he (es.mpr w.2)⟩)))
theorem i_vc_bind {k : Nat} {u : SX} {v : SY} (I : i_Rel k u v) (hk : k + 5 ≤ 2561) (v1 : Int32) (v2 : Int32) : wpX_bind (fun r u' => wpY_bind (fun r' v' => r' = r ∧ i_Rel (k + 5) u' v') v v1 v2) u v1 v2 := by
  obtain ⟨D, c, rk, st, cp, tp, K, X, Y, Z, rs, dt, sz, tr, bd, el, rq, sr, sd, vr, vd, rfl, rfl, hI, hR⟩ := I
  have hI' := hI
  obtain ⟨h2, h6, hc, hr, hn, ht, b0, b1, b2, hb0, hb1, hb2, e0, e1, e2⟩ := hI'
  unfold wpX_bind
  dsimp only
  refine zx_isy (fun j hj e => br_f (by decide) (zx_isz h6 (fun d hd e' => br_f (by decide) ?_) (fun h => br_t rfl ?_))) (fun h => br_t rfl ?_)
  · subst e e'
    rw [nI_clamp (by omega)]
    refine ⟨vp_in_nI hj (by omega), nm_e ?_⟩
    unfold wpX_forgetRun wpY_bind
    dsimp only
    rw [nI_clamp (by omega)]
    refine zq_ck3 (fun _ _ _ => zq_sze (by omega) (fun _ _ _ => ⟨vp_in_nI hj (by omega), nm_e ⟨rfl, ?_⟩⟩) (fun h => absurd ⟨d, hd, rfl⟩ h)) (fun h => absurd ⟨j, hj, rfl⟩ h)
    refine zr_mk ⟨h2, h6, hc, hr, hn, ht, ?_⟩ (Or.inl ⟨rfl, rfl⟩)
    have ej : j = 0 ∨ j = 1 ∨ j = 2 := by omega
    rcases ej with rfl | rfl | rfl
    · exact ⟨d, b1, b2, hd, hb1, hb2, pk_us, by rw [pk_un (by omega)]; exact e1, by rw [pk_un (by omega)]; exact e2⟩
    · exact ⟨b0, d, b2, hb0, hd, hb2, by rw [pk_un (by omega)]; exact e0, pk_us, by rw [pk_un (by omega)]; exact e2⟩
    · exact ⟨b0, b1, d, hb0, hb1, hd, by rw [pk_un (by omega)]; exact e0, by rw [pk_un (by omega)]; exact e1, pk_us⟩
  · unfold wpY_bind
    dsimp only
    exact zq_ck3 (fun _ _ _ => zq_sze (by omega) (fun d hd e' => absurd ⟨d, hd, e'⟩ h) (fun _ => ⟨rfl, zr_mk hI hR⟩)) (fun _ => ⟨rfl, zr_mk hI hR⟩)
  · unfold wpY_bind
    dsimp only
    exact zq_ck3 (fun j hj e => absurd ⟨j, hj, e⟩ h) (fun _ => ⟨rfl, zr_mk hI hR⟩)
theorem i_vc_boundValue {k : Nat} {u : SX} {v : SY} (I : i_Rel k u v) (hk : k + 5 ≤ 2561) (v1 : Int32) : wpX_boundValue (fun r => wpY_boundValue (fun r' => r' = r ∧ i_Rel (k + 5) u v) v v1) u v1 := by
  obtain ⟨D, c, rk, st, cp, tp, K, X, Y, Z, rs, dt, sz, tr, bd, el, rq, sr, sd, vr, vd, rfl, rfl, hI, hR⟩ := I
  unfold wpX_boundValue
  dsimp only
  refine zx_isy (fun j hj e => br_f (by decide) ?_) (fun h => br_t rfl ?_)
  · subst e
    refine ⟨vp_in_nI hj (by omega), ?_⟩
    unfold wpY_boundValue
    dsimp only
    exact zq_ck2 (fun _ _ _ => ⟨vp_in_nI hj (by omega), rfl, zr_mk hI hR⟩) (fun h => absurd ⟨j, hj, rfl⟩ h)
  · unfold wpY_boundValue
    dsimp only
    exact zq_ck2 (fun j hj e => absurd ⟨j, hj, e⟩ h) (fun _ => ⟨rfl, zr_mk hI hR⟩)
theorem i_vc_setData {k : Nat} {u : SX} {v : SY} (I : i_Rel k u v) (hk : k + 5 ≤ 2561) (v1 : Int32) (v2 : Int32) (v3 : Int32) : wpX_setData (fun r u' => wpY_setData (fun r' v' => r' = r ∧ i_Rel (k + 5) u' v') v v1 v2 v3) u v1 v2 v3 := by
  obtain ⟨D, c, rk, st, cp, tp, K, X, Y, Z, rs, dt, sz, tr, bd, el, rq, sr, sd, vr, vd, rfl, rfl, hI, hR⟩ := I
  have hc := hI.2.2.1
  unfold wpX_setData
  dsimp only
  refine zx_isn hc (fun j hj e => br_f (by decide) ?_) (fun h => br_t rfl ?_)
  · subst e
    have vj : vp_in (nI j) 16 := vp_in_nI (by omega) (by omega)
    unfold wpY_setData
    dsimp only
    rw [nI_clamp (n := j) (by omega)]
    refine ⟨vj, br_c (fun hk1 => ?_) (fun hk1 => zq_cke (by omega) (fun _ _ _ => ⟨vj, br_f hk1 ⟨rfl, zr_mk hI hR⟩⟩) (fun h => absurd ⟨j, hj, rfl⟩ h))⟩
    refine zq_ckl (c := 36) (by omega) (fun m hm e => ?_) (fun h => zq_cke (by omega) (fun _ _ _ => ⟨vj, br_t hk1 (zq_ckl (c := 36) (by omega) (fun m hm e => absurd ⟨m, hm, e⟩ h) (fun _ => ⟨rfl, zr_mk hI hR⟩))⟩) (fun h => absurd ⟨j, hj, rfl⟩ h))
    subst e
    rw [zq_m36, nI_add, nI_clamp (n := j * 36 + m) (by omega)]
    have vm : vp_in (nI (j * 36 + m)) 576 := vp_in_nI (by omega) (by omega)
    refine ⟨vm, nm_e ?_⟩
    unfold wpX_forgetRun
    dsimp only
    exact zq_cke (by omega) (fun _ _ _ => ⟨vj, br_t hk1 (zq_ckl (c := 36) (by omega) (fun _ _ _ => ⟨vm, nm_e ⟨rfl, zr_mk hI (Or.inl ⟨rfl, rfl⟩)⟩⟩) (fun h => absurd ⟨m, hm, rfl⟩ h))⟩) (fun h => absurd ⟨j, hj, rfl⟩ h)
  · unfold wpY_setData
    dsimp only
    exact zq_cke (by omega) (fun j hj e => absurd ⟨j, hj, e⟩ h) (fun _ => ⟨rfl, zr_mk hI hR⟩)
theorem i_vc_runState {k : Nat} {u : SX} {v : SY} (I : i_Rel k u v) (hk : k + 5 ≤ 2561) : wpX_runState (fun r => wpY_runState (fun r' => r' = r ∧ i_Rel (k + 5) u v) v) u := by
  obtain ⟨D, c, rk, st, cp, tp, K, X, Y, Z, rs, dt, sz, tr, bd, el, rq, sr, sd, vr, vd, rfl, rfl, hI, hR⟩ := I
  exact ⟨rfl, zr_mk hI hR⟩
theorem i_vc_trapNode {k : Nat} {u : SX} {v : SY} (I : i_Rel k u v) (hk : k + 5 ≤ 2561) : wpX_trapNode (fun r => wpY_trapNode (fun r' => r' = r ∧ i_Rel (k + 5) u v) v) u := by
  obtain ⟨D, c, rk, st, cp, tp, K, X, Y, Z, rs, dt, sz, tr, bd, el, rq, sr, sd, vr, vd, rfl, rfl, hI, hR⟩ := I
  refine br_c (fun h => br_t h ⟨?_, zr_mk hI hR⟩) (fun h => br_f h ⟨rfl, zr_mk hI hR⟩)
  rcases hR with ⟨e, _⟩ | ⟨t, R, C, b0, b1, b2, h1, h2, h3, _⟩
  · rw [e] at h
    exact absurd h (by decide)
  · rcases h3 with ⟨e, _⟩ | ⟨_, _, e⟩
    · rw [e] at h
      exact absurd h (by decide)
    · rw [h2, e]
theorem i_vc_run {k : Nat} {u : SX} {v : SY} (I : i_Rel k u v) (hk : k + 5 ≤ 2561) : wpX_run (fun r u' => wpY_run (fun r' v' => r' = r ∧ i_Rel (k + 5) u' v') v) u := by
  obtain ⟨D, c, rk, st, cp, tp, K, X, Y, Z, rs, dt, sz, tr, bd, el, rq, sr, sd, vr, vd, rfl, rfl, hI, hR⟩ := I
  have hI' := hI
  obtain ⟨h2, h6, hc, hr, hn, ht, b0, b1, b2, hb0, hb1, hb2, e0, e1, e2⟩ := hI'
  have hr2 : ∀ j, j < c → rk j ≤ 2 := fun j hj => (hr j hj).2
  have h216 := zq_216 h6
  have en := zq_enc h2 h6 hb0 hb1 hb2
  obtain ⟨t1, t2, t3, t, R, C, t4, t5, t6⟩ := ht _ en.1
  rw [en.2.1, en.2.2.1, en.2.2.2] at t4
  have htc := t4.1
  have hsg : ∀ p q, zq_spec D p q → zq_good D (zq_sr p q) (zq_sp p q (b0 + 1) (b1 + 1) (b2 + 1)).1 (zq_sp p q (b0 + 1) (b1 + 1) (b2 + 1)).2 := fun p q hs => zq_spec_good h2 h6 hs ⟨by omega, by omega⟩ ⟨by omega, by omega⟩ ⟨by omega, by omega⟩
  have Ydo : ∀ (r st' : Int32), ((r = 1 ∧ st' = 1 ∧ t = c) ∨ (r = 0 ∧ st' = 2 ∧ t < c)) → wpY_run (fun r' v' => r' = r ∧ i_Rel (k + 5) (nI D, nI (D * D * D), nI c, st', nI t, K, X, Y, Z, rs, dt, sz, tr, bd, zq_ev K X Y dt rk R C el t) v') (nI D, nI c, st, tp, K, X, Y, Z, dt, bd, rq, sr, sd, vr, vd, el) := by
    intro r st' hr'
    unfold wpY_run
    dsimp only
    rw [e0, e1, e2]
    refine zy_shapes h6 hc hn hr2 hsg t4 (fun sr' sd' hA => ⟨t + 1, ?_⟩)
    refine zy_run_l h6 hc htc (fun i hi => hn i (by omega)) hA t4.2.1 (fun etc vr' vd' hv => ?_) (fun etc vr' vd' hv => ?_) t 0 (t + 1) vr vd (by omega) (by omega) (fun i hi => absurd hi (by omega))
    · rcases hr' with ⟨rfl, rfl, _⟩ | ⟨_, _, z⟩
      · exact ⟨rfl, zr_mk hI (Or.inr ⟨t, R, C, b0, b1, b2, htc, rfl, Or.inl ⟨rfl, etc⟩, hb0, hb1, hb2, e0, e1, e2, fun i hi => ⟨(t4.2.1 i hi).1, (t5 i hi).1, (t5 i hi).2, hv i hi⟩⟩)⟩
      · omega
    · rcases hr' with ⟨_, _, z⟩ | ⟨rfl, rfl, _⟩
      · omega
      · exact ⟨rfl, zr_mk hI (Or.inr ⟨t, R, C, b0, b1, b2, htc, rfl, Or.inr ⟨rfl, etc, rfl⟩, hb0, hb1, hb2, e0, e1, e2, fun i hi => ⟨(t4.2.1 i hi).1, (t5 i hi).1, (t5 i hi).2, hv i hi⟩⟩)⟩
  unfold wpX_run
  dsimp only
  refine zx_bin e0 e1 e2 ?_
  rw [nI_clamp (by omega)]
  refine ⟨vp_in_nI (by omega) (by omega), ?_⟩
  rcases t6 with ⟨etc, et⟩ | ⟨hlt, et⟩
  · refine br_t et ?_
    unfold wX_run_20
    refine br_t rfl ⟨t + 1, ?_⟩
    rw [← etc]
    refine zx_run_l (n := (b0 * D + b1) * D + b2) (D := D) h6 (by omega) (by omega) (fun i hi => hn i (by omega)) (fun j hj => hr j (by omega)) t5 t4.2.1 (fun _ => ?_) (fun z => absurd rfl z) t 0 (t + 1) (by omega) (by omega)
    unfold wX_run_74
    rw [etc]
    refine br_t rfl ?_
    have W := Ydo 1 1 (Or.inl ⟨rfl, rfl, etc⟩)
    rw [etc] at W
    exact W
  · refine br_f (by rw [et]; exact zq_m1 (by omega)) ?_
    unfold wX_run_20
    refine br_f (by decide) ⟨vp_in_nI (by omega) (by omega), ?_⟩
    rw [nI_clamp (by omega)]
    refine nm_r et ⟨t + 1, ?_⟩
    refine zx_run_l (n := (b0 * D + b1) * D + b2) (D := D) h6 (by omega) (by omega) (fun i hi => hn i (by omega)) (fun j hj => hr j (by omega)) t5 t4.2.1 (fun z => absurd z (by decide)) (fun _ => ?_) t 0 (t + 1) (by omega) (by omega)
    unfold wX_run_74
    exact br_f (by decide) (Ydo 0 2 (Or.inr ⟨rfl, rfl, hlt⟩))
theorem i_vc_valueDim {k : Nat} {u : SX} {v : SY} (I : i_Rel k u v) (hk : k + 5 ≤ 2561) (v1 : Int32) (v2 : Int32) : wpX_valueDim (fun r => wpY_valueDim (fun r' v' => r' = r ∧ i_Rel (k + 5) u v') v v1 v2) u v1 v2 := by
  obtain ⟨D, c, rk, st, cp, tp, K, X, Y, Z, rs, dt, sz, tr, bd, el, rq, sr, sd, vr, vd, rfl, rfl, hI, hR⟩ := I
  have hI' := hI
  obtain ⟨h2, h6, hc, hr, hn, ht, _⟩ := hI'
  have hr2 : ∀ j, j < c → rk j ≤ 2 := fun j hj => (hr j hj).2
  have hR' := hR
  rcases hR' with ⟨es, ec⟩ | ⟨t, R, C, b0, b1, b2, htc, ec, hs, hb0, hb1, hb2, e0, e1, e2, hv⟩
  · subst es ec
    unfold wpX_valueDim
    dsimp only
    refine zx_isc (c := 0) (by omega) (fun j hj _ => absurd hj (by omega)) (fun _ => br_t rfl ?_)
    unfold wpY_valueDim
    dsimp only
    exact zy_rd0 rfl (br_t rfl ⟨rfl, zr_mk hI hR⟩)
  · subst ec
    have h216 := zq_216 h6
    have en := zq_enc h2 h6 hb0 hb1 hb2
    unfold wpX_valueDim
    dsimp only
    refine zx_isc (by omega) (fun j hj e => br_f (by decide) ?_) (fun h => br_t rfl ?_)
    · subst e
      have rj := hr2 j (by omega)
      refine zx_hd hc hr (fun p s hp ep es hsp => br_f (by decide) ?_) (fun h => br_t rfl ?_)
      · have epj := (nI_eq (by omega) (by omega)).mp ep
        subst epj
        subst es
        refine zx_bin e0 e1 e2 (nm_r (zq_m35 _) (zx_pla (by omega) (hr j hp).1 rj ?_))
        rw [nI_add, nI_clamp (by omega)]
        refine ⟨vp_in_nI (by omega) (by omega), ?_⟩
        unfold wpY_valueDim
        dsimp only
        refine zy_rd hc htc hs (fun _ _ _ => br_f (by decide) ?_) (fun h => absurd ⟨j, hj, rfl⟩ h)
        refine zy_rank hc hp hn hr2 (fun rq' => zq_ckl (by omega) (fun _ _ _ => ?_) (fun h => absurd ⟨s, hsp, rfl⟩ h))
        rw [zq_2m, nI_add, nI_clamp (by omega)]
        refine ⟨vp_in_nI (by omega) (by omega), ?_, zr_mk hI hR⟩
        obtain ⟨g, c0, c1, _, d0, d1⟩ := hv j hj
        have e12 : rk j = 1 ∨ rk j = 2 := by omega
        rcases e12 with e12 | e12
        · have s0 : s = 0 := by omega
          subst s0
          have l0 : zq_l0 1 (R j) (C j) = C j := if_neg (by omega)
          rw [e12, l0] at d0
          rw [e12, show j * 2 + 2 - 1 + 0 = j * 2 + 1 by omega, ← Nat.add_assoc, c1]
          exact d0
        · have l0 : zq_l0 2 (R j) (C j) = R j := if_pos rfl
          have l1 : zq_l1 2 (C j) = C j := if_pos rfl
          rw [e12, l0] at d0
          rw [e12, l1] at d1
          have s01 : s = 0 ∨ s = 1 := by omega
          rcases s01 with rfl | rfl
          · rw [e12, show j * 2 + 2 - 2 + 0 = j * 2 by omega, c0]
            exact d0
          · rw [e12, show j * 2 + 2 - 2 + 1 = j * 2 + 1 by omega, ← Nat.add_assoc, c1]
            exact d1
      · unfold wpY_valueDim
        dsimp only
        refine zy_rd hc htc hs (fun _ _ _ => br_f (by decide) ?_) (fun h => absurd ⟨j, hj, rfl⟩ h)
        exact zy_rank hc (show j < c by omega) hn hr2 (fun rq' => zq_ckl (by omega) (fun s hs' e => absurd ⟨j, s, by omega, rfl, e, hs'⟩ h) (fun _ => ⟨rfl, zr_mk hI hR⟩))
    · unfold wpY_valueDim
      dsimp only
      exact zy_rd hc htc hs (fun j hj e => absurd ⟨j, hj, e⟩ h) (fun _ => br_t rfl ⟨rfl, zr_mk hI hR⟩)
theorem i_vc_valueAt {k : Nat} {u : SX} {v : SY} (I : i_Rel k u v) (hk : k + 5 ≤ 2561) (v1 : Int32) (v2 : Int32) : wpX_valueAt (fun r => wpY_valueAt (fun r' => r' = r ∧ i_Rel (k + 5) u v) v v1 v2) u v1 v2 := by
  obtain ⟨D, c, rk, st, cp, tp, K, X, Y, Z, rs, dt, sz, tr, bd, el, rq, sr, sd, vr, vd, rfl, rfl, hI, hR⟩ := I
  have hI' := hI
  obtain ⟨h2, h6, hc, hr, hn, ht, _⟩ := hI'
  have hr2 : ∀ j, j < c → rk j ≤ 2 := fun j hj => (hr j hj).2
  have hR' := hR
  rcases hR' with ⟨es, ec⟩ | ⟨t, R, C, b0, b1, b2, htc, ec, hs, hb0, hb1, hb2, e0, e1, e2, hv⟩
  · subst es ec
    unfold wpX_valueAt
    dsimp only
    refine zx_isc (c := 0) (by omega) (fun j hj _ => absurd hj (by omega)) (fun _ => br_t rfl ?_)
    unfold wpY_valueAt
    dsimp only
    exact zy_rd0 rfl (br_t rfl ⟨rfl, zr_mk hI hR⟩)
  · subst ec
    have h216 := zq_216 h6
    have en := zq_enc h2 h6 hb0 hb1 hb2
    unfold wpX_valueAt
    dsimp only
    refine zx_isc (by omega) (fun j hj e => br_f (by decide) ?_) (fun h => br_t rfl ?_)
    · subst e
      have rj := hr2 j (by omega)
      obtain ⟨g, c0, c1, dr, d0, d1⟩ := hv j hj
      have g' := g
      unfold zq_good at g'
      have hRC : R j * C j ≤ 6 * 6 := Nat.mul_le_mul (by omega) (by omega)
      have vj : vp_in (nI j) 16 := vp_in_nI (by omega) (by omega)
      have w0 : vp_in (nI (2 * j)) 32 := vp_in_nI (by omega) (by omega)
      have w1 : vp_in (nI (2 * j + 1)) 32 := vp_in_nI (by omega) (by omega)
      have Ydo : ∀ r : Int32, wY_valueAt_54 (fun r' => r' = r ∧ i_Rel (k + 5) (nI D, nI (D * D * D), nI c, st, nI t, K, X, Y, Z, rs, dt, sz, tr, bd, el) (nI D, nI c, st, tp, K, X, Y, Z, dt, bd, rq, sr, sd, vr, vd, el)) (nI j) v2 (nI (R j * C j)) (nI D) (nI c) st tp K X Y Z dt bd rq sr sd vr vd el → wpY_valueAt (fun r' => r' = r ∧ i_Rel (k + 5) (nI D, nI (D * D * D), nI c, st, nI t, K, X, Y, Z, rs, dt, sz, tr, bd, el) (nI D, nI c, st, tp, K, X, Y, Z, dt, bd, rq, sr, sd, vr, vd, el)) (nI D, nI c, st, tp, K, X, Y, Z, dt, bd, rq, sr, sd, vr, vd, el) (nI j) v2 := by
        intro r h54
        unfold wpY_valueAt
        dsimp only
        refine zy_rd hc htc hs (fun _ _ _ => br_f (by decide) ⟨vj, ?_⟩) (fun h => absurd ⟨j, hj, rfl⟩ h)
        unfold zq_l0 at d0
        unfold zq_l1 at d1
        rw [nI_clamp (n := j) (by omega), dr, zq_2m, nI_clamp (n := 2 * j) (by omega), d0]
        unfold wY_valueAt_31
        rw [nI_clamp (n := j) (by omega), dr, zq_2m, nI_1, nI_clamp (n := 2 * j + 1) (by omega), d1]
        refine pk_lt (rk j) 1 (fun z => ⟨vj, ?_⟩) (fun z => ⟨w0, nm_e ⟨vj, ?_⟩⟩)
        · rw [show R j = 1 by omega, show C j = 1 by omega] at h54
          exact pk_eq (rk j) 2 (fun z1 => absurd z1 (by omega)) (fun z1 => h54)
        · refine pk_eq (rk j) 2 (fun z1 => ⟨w1, nm_r (e' := nI (R j * C j)) ?_ h54⟩) (fun z1 => ?_)
          · rw [if_pos z1, if_pos z1, pk_mul]
          · rw [if_neg z1]
            rw [show R j = 1 by omega, Nat.one_mul] at h54
            exact h54
      refine zx_bin e0 e1 e2 (nm_r (zq_m35 _) ?_)
      have Y0 : ¬ (∃ m, m < R j * C j ∧ v2 = nI m) → wpY_valueAt (fun r' => r' = 0 ∧ i_Rel (k + 5) (nI D, nI (D * D * D), nI c, st, nI t, K, X, Y, Z, rs, dt, sz, tr, bd, el) (nI D, nI c, st, tp, K, X, Y, Z, dt, bd, rq, sr, sd, vr, vd, el)) (nI D, nI c, st, tp, K, X, Y, Z, dt, bd, rq, sr, sd, vr, vd, el) (nI j) v2 := by
        intro h
        refine Ydo 0 ?_
        unfold wY_valueAt_54
        exact zq_ckl (by omega) (fun m hm e => absurd ⟨m, hm, e⟩ h) (fun _ => ⟨rfl, zr_mk hI hR⟩)
      refine br_c (fun hneg => Y0 (fun ⟨m, hm, e⟩ => ?_)) (fun hneg => zx_elc (by omega) ?_)
      · rw [e] at hneg
        exact nI_pos (by omega) hneg
      · rw [c0, c1, pk_mul]
        refine br_c (fun hlt => ?_) (fun hlt => Y0 (fun ⟨m, hm, e⟩ => ?_))
        · obtain ⟨m, hm, rfl⟩ := nI_of hneg
          have hmm : m < R j * C j := (nI_ltI hm (by omega)).mp hlt
          rw [zq_m36, nI_add, nI_clamp (n := j * 36 + m) (by omega)]
          have vm : vp_in (nI (j * 36 + m)) 576 := vp_in_nI (by omega) (by omega)
          refine ⟨vm, Ydo _ ?_⟩
          unfold wY_valueAt_54
          rw [zq_m36, nI_add, nI_clamp (n := j * 36 + m) (by omega)]
          exact zq_ckl (by omega) (fun _ _ _ => ⟨vm, rfl, zr_mk hI hR⟩) (fun h => absurd ⟨m, hmm, rfl⟩ h)
        · rw [e] at hlt
          exact hlt (nI_lt hm (by omega))
    · unfold wpY_valueAt
      dsimp only
      exact zy_rd hc htc hs (fun j hj e => absurd ⟨j, hj, e⟩ h) (fun _ => br_t rfl ⟨rfl, zr_mk hI hR⟩)
end
