/-! rows pasted from kit/rows -/
theorem pk_us {f : Nat → Int32} {k : Nat} {x : Int32} : upd f k x k = x := if_pos rfl
theorem pk_un {f : Nat → Int32} {k j : Nat} {x : Int32} (h : j ≠ k) : upd f k x j = f j := if_neg h
theorem pk_sub {a b : Nat} (h : b ≤ a) : nI a - nI b = nI (a - b) := by
  obtain ⟨c, rfl⟩ : ∃ c, a = c + b := ⟨a - b, by omega⟩
  rw [← nI_add, Int32.add_sub_cancel, Nat.add_sub_cancel]
theorem pk_m1 (n : Nat) : nI (n + 1) + (-1) = nI n := by
  rw [← nI_1, Int32.add_assoc, show (1 : Int32) + (-1) = 0 from rfl, Int32.add_zero]
theorem pk_ix (x : Int32) {n : Nat} (hn : n < 2 ^ 31) : x < 0 ∨ nI n ≤ x ∨ ∃ j : Nat, j < n ∧ x = nI j := by
  by_cases h : x < 0
  · exact Or.inl h
  · obtain ⟨j, hj, rfl⟩ := nI_of h
    by_cases h2 : j < n
    · exact Or.inr (Or.inr ⟨j, h2, rfl⟩)
    · exact Or.inr (Or.inl (nI_le (by omega) hj))
theorem pk_le {x y : Int32} {A B : Prop} (a b : Nat) (f : a ≤ b → A) (g : b < a → B) (hx : x = nI a := by rfl) (hy : y = nI b := by rfl) (ha : a < 2 ^ 31 := by omega) (hb : b < 2 ^ 31 := by omega) : (x ≤ y → A) ∧ (¬ x ≤ y → B) := by
  subst hx hy
  rw [nI_leI ha hb]
  exact ⟨f, fun z => g (by omega)⟩
theorem pk_lt {x y : Int32} {A B : Prop} (a b : Nat) (f : a < b → A) (g : b ≤ a → B) (hx : x = nI a := by rfl) (hy : y = nI b := by rfl) (ha : a < 2 ^ 31 := by omega) (hb : b < 2 ^ 31 := by omega) : (x < y → A) ∧ (¬ x < y → B) := by
  subst hx hy
  rw [nI_ltI ha hb]
  exact ⟨f, fun z => g (by omega)⟩
theorem pk_eq {x y : Int32} {A B : Prop} (a b : Nat) (f : a = b → A) (g : a ≠ b → B) (hx : x = nI a := by rfl) (hy : y = nI b := by rfl) (ha : a < 2 ^ 31 := by omega) (hb : b < 2 ^ 31 := by omega) : (x = y → A) ∧ (¬ x = y → B) := by
  subst hx hy
  rw [nI_eq ha hb]
  exact ⟨f, g⟩
theorem pk_in {x : Int32} (n N : Nat) (h : n < N) (hx : x = nI n := by rfl) (hN : N < 2 ^ 31 := by omega) : vp_in x N := by
  subst hx
  exact vp_in_nI h hN
theorem pk_cl {x : Int32} (n : Nat) (hx : x = nI n := by rfl) (h : n < 2 ^ 31 := by omega) : x.toNatClampNeg = n := by
  subst hx
  exact nI_clamp h
/-! own rows: sorted rows, cuts, gaps -/
def rb_Srt (n : Nat) (ks : Nat → Int32) : Prop := ∀ i j, i < j → j < n → ks i < ks j
def rb_Agr (n : Nat) (a b : Nat → Int32) : Prop := ∀ j, j < n → b j = a j
def rb_Cut (n : Nat) (P : Nat → Prop) (p : Nat) : Prop := p ≤ n ∧ ∀ i, i < n → (P i ↔ i < p)
def rb_Ins (n p : Nat) (x : Int32) (ks ks' : Nat → Int32) : Prop := ∀ j, j < n + 1 → ks' j = if j < p then ks j else if j = p then x else ks (j - 1)
def rb_Gap (n a b : Nat) (ks ks' : Nat → Int32) : Prop := ∀ j, j < n - (b - a) → ks' j = if j < a then ks j else ks (j + (b - a))
def rb_cur (a b c : Nat) : Nat := if b ≤ c then c - (b - a) else if a < c then a else c
theorem rb_cutE (n : Nat) (P : Nat → Prop) : (∀ i j, i < j → j < n → P j → P i) → ∃ p, rb_Cut n P p := by
  induction n with
  | zero => exact fun _ => ⟨0, Nat.le_refl 0, fun i hi => absurd hi (Nat.not_lt_zero i)⟩
  | succ n ih =>
    intro h
    obtain ⟨p, hp, hc⟩ := ih (fun i j hij hj => h i j hij (Nat.lt_succ_of_lt hj))
    by_cases z : P n
    · refine ⟨n + 1, Nat.le_refl _, fun i hi => ⟨fun _ => hi, fun _ => ?_⟩⟩
      by_cases e : i = n
      · rw [e]; exact z
      · exact h i n (by omega) (by omega) z
    · refine ⟨p, by omega, fun i hi => ?_⟩
      by_cases e : i = n
      · rw [e]
        exact ⟨fun t => absurd t z, fun t => by omega⟩
      · exact hc i (by omega)
theorem rb_cutLt {n : Nat} {ks : Nat → Int32} (h : rb_Srt n ks) (key : Int32) : ∃ p, rb_Cut n (fun i => ks i < key) p :=
  rb_cutE n _ (fun i j hij hj hP => Int32.lt_trans (h i j hij hj) hP)
theorem rb_cutLe {n : Nat} {ks : Nat → Int32} (h : rb_Srt n ks) (key : Int32) : ∃ p, rb_Cut n (fun i => ks i ≤ key) p :=
  rb_cutE n _ (fun i j hij hj hP => Int32.le_of_lt (Int32.lt_of_lt_of_le (h i j hij hj) hP))
theorem rb_srtA {n : Nat} {a b : Nat → Int32} (h : rb_Srt n a) (e : rb_Agr n a b) : rb_Srt n b := by
  intro i j hij hj
  rw [e i (by omega), e j hj]
  exact h i j hij hj
theorem rb_cutLtA {n p : Nat} {a b : Nat → Int32} {key : Int32} (e : rb_Agr n a b) (h : rb_Cut n (fun i => a i < key) p) : rb_Cut n (fun i => b i < key) p := by
  refine ⟨h.1, fun i hi => ?_⟩
  show b i < key ↔ _
  rw [e i hi]
  exact h.2 i hi
theorem rb_cutLeA {n p : Nat} {a b : Nat → Int32} {key : Int32} (e : rb_Agr n a b) (h : rb_Cut n (fun i => a i ≤ key) p) : rb_Cut n (fun i => b i ≤ key) p := by
  refine ⟨h.1, fun i hi => ?_⟩
  show b i ≤ key ↔ _
  rw [e i hi]
  exact h.2 i hi
theorem rb_insSrt {n p : Nat} {key : Int32} {ks ks' : Nat → Int32} (h : rb_Srt n ks) (c : rb_Cut n (fun i => ks i < key) p) (nh : ¬ (p < n ∧ ks p = key)) (e : rb_Ins n p key ks ks') : rb_Srt (n + 1) ks' := by
  intro i j hij hj
  have hpn := c.1
  rw [e i (by omega), e j hj]
  by_cases hi : i < p
  · rw [if_pos hi]
    by_cases hj1 : j < p
    · rw [if_pos hj1]
      exact h i j hij (by omega)
    · rw [if_neg hj1]
      have hik : ks i < key := (c.2 i (by omega)).mpr hi
      by_cases hj2 : j = p
      · rw [if_pos hj2]
        exact hik
      · rw [if_neg hj2]
        exact h i (j - 1) (by omega) (by omega)
  · rw [if_neg hi, if_neg (show ¬ j < p by omega), if_neg (show ¬ j = p by omega)]
    by_cases hi2 : i = p
    · rw [if_pos hi2]
      have hp2 : p < n := by omega
      have h1 : ¬ ks p < key := fun z => absurd ((c.2 p hp2).mp z) (Nat.lt_irrefl p)
      have h2 : ¬ ks p = key := fun z => nh ⟨hp2, z⟩
      have h3 : key < ks p := Int32.lt_iff_le_and_ne.mpr ⟨Int32.not_lt.mp h1, fun z => h2 z.symm⟩
      by_cases hj3 : j - 1 = p
      · rw [hj3]
        exact h3
      · exact Int32.lt_trans h3 (h p (j - 1) (by omega) (by omega))
    · rw [if_neg hi2]
      exact h (i - 1) (j - 1) (by omega) (by omega)
theorem rb_insA {n p : Nat} {x : Int32} {a b a' b' : Nat → Int32} (hp : p ≤ n) (e : rb_Agr n a b) (ha : rb_Ins n p x a a') (hb : rb_Ins n p x b b') : rb_Agr (n + 1) a' b' := by
  intro j hj
  rw [ha j hj, hb j hj]
  by_cases h1 : j < p
  · rw [if_pos h1, if_pos h1]
    exact e j (by omega)
  · rw [if_neg h1, if_neg h1]
    by_cases h2 : j = p
    · rw [if_pos h2, if_pos h2]
    · rw [if_neg h2, if_neg h2]
      exact e (j - 1) (by omega)
theorem rb_gapSrt {n a b : Nat} {ks ks' : Nat → Int32} (h : rb_Srt n ks) (e : rb_Gap n a b ks ks') : rb_Srt (n - (b - a)) ks' := by
  intro i j hij hj
  rw [e i (by omega), e j hj]
  by_cases hi : i < a
  · rw [if_pos hi]
    by_cases hj2 : j < a
    · rw [if_pos hj2]
      exact h i j hij (by omega)
    · rw [if_neg hj2]
      exact h i (j + (b - a)) (by omega) (by omega)
  · rw [if_neg hi, if_neg (show ¬ j < a by omega)]
    exact h (i + (b - a)) (j + (b - a)) (by omega) (by omega)
theorem rb_gapA {n a b : Nat} {x y x' y' : Nat → Int32} (e : rb_Agr n x y) (hx : rb_Gap n a b x x') (hy : rb_Gap n a b y y') : rb_Agr (n - (b - a)) x' y' := by
  intro j hj
  rw [hx j hj, hy j hj]
  by_cases h1 : j < a
  · rw [if_pos h1, if_pos h1]
    exact e j (by omega)
  · rw [if_neg h1, if_neg h1]
    exact e (j + (b - a)) (by omega)
theorem rb_gap0 (n a : Nat) (ks : Nat → Int32) : rb_Gap n a a ks ks := by
  intro j hj
  by_cases h : j < a
  · rw [if_pos h]
  · rw [if_neg h, Nat.sub_self, Nat.add_zero]
theorem rb_gap1 {n p b m : Nat} {ks ks1 ks2 : Nat → Int32} (hp : p + 1 ≤ b) (hb : b ≤ n) (hm : m = n - (b - (p + 1))) (h1 : rb_Gap n (p + 1) b ks ks1) (h2 : rb_Gap m p (p + 1) ks1 ks2) : rb_Gap n p b ks ks2 := by
  intro j hj
  rw [h2 j (by omega)]
  by_cases h : j < p
  · rw [if_pos h, if_pos h, h1 j (by omega), if_pos (show j < p + 1 by omega)]
  · rw [if_neg h, if_neg h, h1 (j + (p + 1 - p)) (by omega), if_neg (show ¬ j + (p + 1 - p) < p + 1 by omega)]
    exact congrArg ks (by omega)
theorem rb_cur_t {a b c : Nat} (h : b ≤ c) : rb_cur a b c = c - (b - a) := if_pos h
theorem rb_cur_m {a b c : Nat} (h : ¬ b ≤ c) (h2 : a < c) : rb_cur a b c = a := by
  unfold rb_cur
  rw [if_neg h, if_pos h2]
theorem rb_cur_f {a b c : Nat} (h : ¬ b ≤ c) (h2 : ¬ a < c) : rb_cur a b c = c := by
  unfold rb_cur
  rw [if_neg h, if_neg h2]
theorem rb_cur1 {p b c : Nat} (hp : p + 1 ≤ b) : (if p < rb_cur (p + 1) b c then rb_cur (p + 1) b c - 1 else rb_cur (p + 1) b c) = rb_cur p b c := by
  by_cases h1 : b ≤ c
  · rw [rb_cur_t h1, rb_cur_t h1, if_pos (show p < c - (b - (p + 1)) by omega)]
    omega
  · by_cases h2 : p + 1 < c
    · rw [rb_cur_m h1 h2, rb_cur_m h1 (show p < c by omega), if_pos (Nat.lt_succ_self p)]
      omega
    · rw [rb_cur_f h1 h2]
      by_cases h3 : p < c
      · rw [if_pos h3, rb_cur_m h1 h3]
        omega
      · rw [if_neg h3, rb_cur_f h1 h3]
theorem rb_cur_0 (a c : Nat) : rb_cur a a c = c := by
  by_cases h1 : a ≤ c
  · rw [rb_cur_t h1]
    omega
  · exact rb_cur_f h1 (by omega)
theorem rb_cur_s (p c : Nat) : rb_cur p (p + 1) c = if p < c then c - 1 else c := by
  by_cases h1 : p < c
  · rw [rb_cur_t (show p + 1 ≤ c by omega), if_pos h1]
    omega
  · rw [rb_cur_f (show ¬ p + 1 ≤ c by omega) h1, if_neg h1]
theorem rb_cur_le {n a b c : Nat} (hab : a ≤ b) (hb : b ≤ n) (hc : c ≤ n) : rb_cur a b c ≤ n - (b - a) := by
  by_cases h1 : b ≤ c
  · rw [rb_cur_t h1]
    omega
  · by_cases h2 : a < c
    · rw [rb_cur_m h1 h2]
      omega
    · rw [rb_cur_f h1 h2]
      omega
def rb_sum (ks vs : Nat → Int32) (lo hi : Int32) : Nat → Int64
  | 0 => 0
  | i + 1 => if lo ≤ ks i ∧ ks i ≤ hi then rb_sum ks vs lo hi i + (vs i).toInt64 else rb_sum ks vs lo hi i
theorem rb_sumA {a b c d : Nat → Int32} {lo hi : Int32} : ∀ n, rb_Agr n a b → rb_Agr n c d → rb_sum b d lo hi n = rb_sum a c lo hi n
  | 0, _, _ => rfl
  | n + 1, h1, h2 => by
    have e := rb_sumA (lo := lo) (hi := hi) n (fun j hj => h1 j (by omega)) (fun j hj => h2 j (by omega))
    show (if lo ≤ b n ∧ b n ≤ hi then rb_sum b d lo hi n + (d n).toInt64 else rb_sum b d lo hi n) = (if lo ≤ a n ∧ a n ≤ hi then rb_sum a c lo hi n + (c n).toInt64 else rb_sum a c lo hi n)
    rw [e, h1 n (by omega), h2 n (by omega)]
