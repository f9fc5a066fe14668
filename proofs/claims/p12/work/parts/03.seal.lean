/-! what holds in all admissible instantiations: pure -/
def zq_any (A : Nat → Prop) (i : Nat) : Prop := ∃ m, m < i ∧ A m
def zq_same (A : Nat → Prop) (g : Nat → Int32) (i : Nat) : Prop := ∀ m m', m < i → m' < i → A m → A m' → g m = g m'
def zq_eqs (A : Nat → Prop) (g h : Nat → Int32) (i : Nat) : Prop := ∀ m, m < i → A m → g m = h m
/-- a truth value -/
def zq_fl (x : Int32) (P : Prop) : Prop := (x = 1 ∧ P) ∨ (x = 0 ∧ ¬ P)
theorem zq_fl_i {x : Int32} {P Q : Prop} (h : zq_fl x P) (e : P ↔ Q) : zq_fl x Q := by
  rcases h with ⟨h1, h2⟩ | ⟨h1, h2⟩
  · exact Or.inl ⟨h1, e.mp h2⟩
  · exact Or.inr ⟨h1, fun q => h2 (e.mpr q)⟩
theorem zq_fl_1 {P : Prop} (h : P) : zq_fl 1 P := Or.inl ⟨rfl, h⟩
theorem zq_fl_0 {P : Prop} (h : ¬ P) : zq_fl 0 P := Or.inr ⟨rfl, h⟩
theorem zq_fl_n0 {x : Int32} {P : Prop} (h : zq_fl x P) (e : ¬ x = 0) : P := by
  rcases h with ⟨h1, h2⟩ | ⟨h1, h2⟩
  · exact h2
  · exact absurd h1 e
theorem zq_fl_e0 {x : Int32} {P : Prop} (h : zq_fl x P) (e : x = 0) : ¬ P := by
  rcases h with ⟨h1, h2⟩ | ⟨h1, h2⟩
  · rw [e] at h1; exact absurd h1 (by decide)
  · exact h2
theorem zq_any_0 {A : Nat → Prop} : ¬ zq_any A 0 := fun ⟨_, h, _⟩ => absurd h (by omega)
theorem zq_same_0 {A : Nat → Prop} {g : Nat → Int32} : zq_same A g 0 := fun m _ h => absurd h (by omega)
theorem zq_eqs_0 {A : Nat → Prop} {g h : Nat → Int32} : zq_eqs A g h 0 := fun m z => absurd z (by omega)
theorem zq_lt {m i : Nat} (h : m < i + 1) : m < i ∨ m = i := by omega
theorem zq_any_n {A : Nat → Prop} {i : Nat} (h : ¬ A i) : zq_any A i ↔ zq_any A (i + 1) := by
  constructor
  · exact fun ⟨m, h1, h2⟩ => ⟨m, by omega, h2⟩
  · intro ⟨m, h1, h2⟩
    rcases zq_lt h1 with h3 | rfl
    · exact ⟨m, h3, h2⟩
    · exact absurd h2 h
theorem zq_any_y {A : Nat → Prop} {i : Nat} (h : A i) : zq_any A (i + 1) := ⟨i, by omega, h⟩
theorem zq_eqs_n {A : Nat → Prop} {g f : Nat → Int32} {i : Nat} (h : ¬ A i) : zq_eqs A g f i ↔ zq_eqs A g f (i + 1) := by
  constructor
  · intro z m h1 h2
    rcases zq_lt h1 with h3 | rfl
    · exact z m h3 h2
    · exact absurd h2 h
  · exact fun z m h1 h2 => z m (by omega) h2
theorem zq_eqs_y {A : Nat → Prop} {g f : Nat → Int32} {i : Nat} (e : g i = f i) : zq_eqs A g f i ↔ zq_eqs A g f (i + 1) := by
  constructor
  · intro z m h1 h2
    rcases zq_lt h1 with h3 | rfl
    · exact z m h3 h2
    · exact e
  · exact fun z m h1 h2 => z m (by omega) h2
theorem zq_eqs_f {A : Nat → Prop} {g f : Nat → Int32} {i j : Nat} (h : A i) (hj : i < j) (e : ¬ g i = f i) : ¬ zq_eqs A g f j := fun z => e (z i hj h)
theorem zq_same_n {A : Nat → Prop} {g : Nat → Int32} {i : Nat} (h : ¬ A i) : zq_same A g i ↔ zq_same A g (i + 1) := by
  constructor
  · intro z m m' h1 h1' h2 h2'
    rcases zq_lt h1 with h3 | rfl
    · rcases zq_lt h1' with h3' | rfl
      · exact z m m' h3 h3' h2 h2'
      · exact absurd h2' h
    · exact absurd h2 h
  · exact fun z m m' h1 h1' h2 h2' => z m m' (by omega) (by omega) h2 h2'
theorem zq_same_y {A : Nat → Prop} {g : Nat → Int32} {i m0 : Nat} (h0 : m0 < i) (hA : A m0) (e : g i = g m0) : zq_same A g i ↔ zq_same A g (i + 1) := by
  constructor
  · intro z m m' h1 h1' h2 h2'
    rcases zq_lt h1 with h3 | rfl
    · rcases zq_lt h1' with h3' | rfl
      · exact z m m' h3 h3' h2 h2'
      · rw [e]; exact z m m0 h3 h0 h2 hA
    · rcases zq_lt h1' with h3' | rfl
      · rw [e]; exact z m0 m' h0 h3' hA h2'
      · rfl
  · exact fun z m m' h1 h1' h2 h2' => z m m' (by omega) (by omega) h2 h2'
theorem zq_same_f {A : Nat → Prop} {g : Nat → Int32} {i j m0 : Nat} (h0 : m0 < j) (hj : i < j) (hA : A m0) (h : A i) (e : ¬ g i = g m0) : ¬ zq_same A g j := fun z => e (z i m0 hj h0 h hA)
theorem zq_same_1 {A : Nat → Prop} {g : Nat → Int32} {i : Nat} (h : ¬ zq_any A i) : zq_same A g (i + 1) := by
  intro m m' h1 h1' h2 h2'
  rcases zq_lt h1 with h3 | rfl
  · exact absurd ⟨m, h3, h2⟩ h
  · rcases zq_lt h1' with h3' | rfl
    · exact absurd ⟨m', h3', h2'⟩ h
    · rfl
theorem zq_same_d {A : Nat → Prop} {g : Nat → Int32} {i j : Nat} (z : zq_same A g j) (h : i ≤ j) : zq_same A g i :=
  fun m m' h1 h1' h2 h2' => z m m' (by omega) (by omega) h2 h2'
/-- the common size, or 0 -/
def zq_cm (A : Nat → Prop) (g : Nat → Int32) (N : Nat) (r : Int32) : Prop :=
  (zq_same A g N ∧ ∃ m, m < N ∧ A m ∧ r = g m) ∨ (¬ (zq_any A N ∧ zq_same A g N) ∧ r = 0)
theorem zq_cm_u {A : Nat → Prop} {g : Nat → Int32} {N : Nat} {r r' : Int32} (h : zq_cm A g N r) (h' : zq_cm A g N r') : r' = r := by
  rcases h with ⟨h1, m, h2, h3, h4⟩ | ⟨h1, h2⟩
  · rcases h' with ⟨h1', m', h2', h3', h4'⟩ | ⟨h1', h2'⟩
    · rw [h4, h4']; exact h1 m' m h2' h2 h3' h3
    · exact absurd ⟨⟨m, h2, h3⟩, h1⟩ h1'
  · rcases h' with ⟨h1', m', h2', h3', h4'⟩ | ⟨h1', h2'⟩
    · exact absurd ⟨⟨m', h2', h3'⟩, h1'⟩ h1
    · rw [h2, h2']
/-- the answer of dimOf -/
def zq_dr (A : Nat → Prop) (g s0 s1 s2 : Nat → Int32) (N : Nat) (r : Int32) : Prop :=
  (¬ zq_any A N ∧ r = 0) ∨ (zq_same A g N ∧ ∃ m, m < N ∧ A m ∧ r = g m) ∨
  (zq_any A N ∧ ¬ zq_same A g N ∧ ((zq_eqs A g s0 N ∧ r = -1) ∨ (¬ zq_eqs A g s0 N ∧ zq_eqs A g s1 N ∧ r = -2) ∨
    (¬ zq_eqs A g s0 N ∧ ¬ zq_eqs A g s1 N ∧ zq_eqs A g s2 N ∧ r = -3) ∨ (¬ zq_eqs A g s0 N ∧ ¬ zq_eqs A g s1 N ∧ ¬ zq_eqs A g s2 N ∧ r = -4)))
theorem zq_dr_u {A : Nat → Prop} {g s0 s1 s2 : Nat → Int32} {N : Nat} {r r' : Int32} (h : zq_dr A g s0 s1 s2 N r) (h' : zq_dr A g s0 s1 s2 N r') : r' = r := by
  rcases h with ⟨h1, h2⟩ | ⟨h1, m, h2, h3, h4⟩ | ⟨h1, h2, h3⟩
  · rcases h' with ⟨h1', h2'⟩ | ⟨h1', m', h2', h3', h4'⟩ | ⟨h1', h2', h3'⟩
    · rw [h2, h2']
    · exact absurd ⟨m', h2', h3'⟩ h1
    · exact absurd h1' h1
  · rcases h' with ⟨h1', h2'⟩ | ⟨h1', m', h2', h3', h4'⟩ | ⟨h1', h2', h3'⟩
    · exact absurd ⟨m, h2, h3⟩ h1'
    · rw [h4, h4']; exact h1 m' m h2' h2 h3' h3
    · exact absurd h1 h2'
  · rcases h' with ⟨h1', h2'⟩ | ⟨h1', m', h2', h3', h4'⟩ | ⟨h1', h2', h3'⟩
    · exact absurd h1 h1'
    · exact absurd h1' h2
    · rcases h3 with ⟨a1, a2⟩ | ⟨a1, a2, a3⟩ | ⟨a1, a2, a3, a4⟩ | ⟨a1, a2, a3, a4⟩ <;>
        rcases h3' with ⟨b1, b2⟩ | ⟨b1, b2, b3⟩ | ⟨b1, b2, b3, b4⟩ | ⟨b1, b2, b3, b4⟩ <;>
        first | (exact b2.trans a2.symm) | (exact b3.trans a3.symm) | (exact b4.trans a4.symm) | (exact absurd b1 a1) | (exact absurd a1 b1) | (exact absurd b2 a2) | (exact absurd a2 b2) | (exact absurd b3 a3) | (exact absurd a3 b3)
