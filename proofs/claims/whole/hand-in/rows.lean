section
/-! rows pasted from kit/rows -/
theorem pk_us {f : Nat → Int32} {k : Nat} {x : Int32} : upd f k x k = x := if_pos rfl
theorem pk_un {f : Nat → Int32} {k j : Nat} {x : Int32} (h : j ≠ k) : upd f k x j = f j := if_neg h
theorem pk_sub {a b : Nat} (h : b ≤ a) : nI a - nI b = nI (a - b) := by
  obtain ⟨c, rfl⟩ : ∃ c, a = c + b := ⟨a - b, by omega⟩
  rw [← nI_add, Int32.add_sub_cancel, Nat.add_sub_cancel]
theorem pk_m1 (n : Nat) : nI (n + 1) + (-1) = nI n := by
  rw [← nI_1, Int32.add_assoc, show (1 : Int32) + (-1) = 0 from rfl, Int32.add_zero]
theorem pk_ix (x : Int32) {n : Nat} (hn : n < 2 ^ 31) : x < 0 ∨ nI n ≤ x ∨ ∃ j : Nat, j < n ∧ x = nI j := by
  by_cases h : x < 0
  · exact Or.inl h
  · obtain ⟨j, hj, rfl⟩ := nI_of h
    by_cases h2 : j < n
    · exact Or.inr (Or.inr ⟨j, h2, rfl⟩)
    · exact Or.inr (Or.inl (nI_le (by omega) hj))
theorem pk_le {x y : Int32} {A B : Prop} (a b : Nat) (f : a ≤ b → A) (g : b < a → B) (hx : x = nI a := by rfl) (hy : y = nI b := by rfl) (ha : a < 2 ^ 31 := by omega) (hb : b < 2 ^ 31 := by omega) : (x ≤ y → A) ∧ (¬ x ≤ y → B) := by
  subst hx hy
  rw [nI_leI ha hb]
  exact ⟨f, fun z => g (by omega)⟩
theorem pk_lt {x y : Int32} {A B : Prop} (a b : Nat) (f : a < b → A) (g : b ≤ a → B) (hx : x = nI a := by rfl) (hy : y = nI b := by rfl) (ha : a < 2 ^ 31 := by omega) (hb : b < 2 ^ 31 := by omega) : (x < y → A) ∧ (¬ x < y → B) := by
  subst hx hy
  rw [nI_ltI ha hb]
  exact ⟨f, fun z => g (by omega)⟩
theorem pk_eq {x y : Int32} {A B : Prop} (a b : Nat) (f : a = b → A) (g : a ≠ b → B) (hx : x = nI a := by rfl) (hy : y = nI b := by rfl) (ha : a < 2 ^ 31 := by omega) (hb : b < 2 ^ 31 := by omega) : (x = y → A) ∧ (¬ x = y → B) := by
  subst hx hy
  rw [nI_eq ha hb]
  exact ⟨f, g⟩
theorem pk_in {x : Int32} (n N : Nat) (h : n < N) (hx : x = nI n := by rfl) (hN : N < 2 ^ 31 := by omega) : vp_in x N := by
  subst hx
  exact vp_in_nI h hN
theorem pk_cl {x : Int32} (n : Nat) (hx : x = nI n := by rfl) (h : n < 2 ^ 31 := by omega) : x.toNatClampNeg = n := by
  subst hx
  exact nI_clamp h
/-! own rows: sorted rows, cuts, gaps -/
def rb_Srt (n : Nat) (ks : Nat → Int32) : Prop := ∀ i j, i < j → j < n → ks i < ks j
def rb_Agr (n : Nat) (a b : Nat → Int32) : Prop := ∀ j, j < n → b j = a j
def rb_Cut (n : Nat) (P : Nat → Prop) (p : Nat) : Prop := p ≤ n ∧ ∀ i, i < n → (P i ↔ i < p)
def rb_Ins (n p : Nat) (x : Int32) (ks ks' : Nat → Int32) : Prop := ∀ j, j < n + 1 → ks' j = if j < p then ks j else if j = p then x else ks (j - 1)
def rb_Gap (n a b : Nat) (ks ks' : Nat → Int32) : Prop := ∀ j, j < n - (b - a) → ks' j = if j < a then ks j else ks (j + (b - a))
def rb_cur (a b c : Nat) : Nat := if b ≤ c then c - (b - a) else if a < c then a else c
theorem rb_cutE (n : Nat) (P : Nat → Prop) : (∀ i j, i < j → j < n → P j → P i) → ∃ p, rb_Cut n P p := by
  induction n with
  | zero => exact fun _ => ⟨0, Nat.le_refl 0, fun i hi => absurd hi (Nat.not_lt_zero i)⟩
  | succ n ih =>
    intro h
    obtain ⟨p, hp, hc⟩ := ih (fun i j hij hj => h i j hij (Nat.lt_succ_of_lt hj))
    by_cases z : P n
    · refine ⟨n + 1, Nat.le_refl _, fun i hi => ⟨fun _ => hi, fun _ => ?_⟩⟩
      by_cases e : i = n
      · rw [e]; exact z
      · exact h i n (by omega) (by omega) z
    · refine ⟨p, by omega, fun i hi => ?_⟩
      by_cases e : i = n
      · rw [e]
        exact ⟨fun t => absurd t z, fun t => by omega⟩
      · exact hc i (by omega)
theorem rb_cutLt {n : Nat} {ks : Nat → Int32} (h : rb_Srt n ks) (key : Int32) : ∃ p, rb_Cut n (fun i => ks i < key) p :=
  rb_cutE n _ (fun i j hij hj hP => Int32.lt_trans (h i j hij hj) hP)
theorem rb_cutLe {n : Nat} {ks : Nat → Int32} (h : rb_Srt n ks) (key : Int32) : ∃ p, rb_Cut n (fun i => ks i ≤ key) p :=
  rb_cutE n _ (fun i j hij hj hP => Int32.le_of_lt (Int32.lt_of_lt_of_le (h i j hij hj) hP))
theorem rb_srtA {n : Nat} {a b : Nat → Int32} (h : rb_Srt n a) (e : rb_Agr n a b) : rb_Srt n b := by
  intro i j hij hj
  rw [e i (by omega), e j hj]
  exact h i j hij hj
theorem rb_cutLtA {n p : Nat} {a b : Nat → Int32} {key : Int32} (e : rb_Agr n a b) (h : rb_Cut n (fun i => a i < key) p) : rb_Cut n (fun i => b i < key) p := by
  refine ⟨h.1, fun i hi => ?_⟩
  show b i < key ↔ _
  rw [e i hi]
  exact h.2 i hi
theorem rb_cutLeA {n p : Nat} {a b : Nat → Int32} {key : Int32} (e : rb_Agr n a b) (h : rb_Cut n (fun i => a i ≤ key) p) : rb_Cut n (fun i => b i ≤ key) p := by
  refine ⟨h.1, fun i hi => ?_⟩
  show b i ≤ key ↔ _
  rw [e i hi]
  exact h.2 i hi
theorem rb_insSrt {n p : Nat} {key : Int32} {ks ks' : Nat → Int32} (h : rb_Srt n ks) (c : rb_Cut n (fun i => ks i < key) p) (nh : ¬ (p < n ∧ ks p = key)) (e : rb_Ins n p key ks ks') : rb_Srt (n + 1) ks' := by
  intro i j hij hj
  have hpn := c.1
  rw [e i (by omega), e j hj]
  by_cases hi : i < p
  · rw [if_pos hi]
    by_cases hj1 : j < p
    · rw [if_pos hj1]
      exact h i j hij (by omega)
    · rw [if_neg hj1]
      have hik : ks i < key := (c.2 i (by omega)).mpr hi
      by_cases hj2 : j = p
      · rw [if_pos hj2]
        exact hik
      · rw [if_neg hj2]
        exact h i (j - 1) (by omega) (by omega)
  · rw [if_neg hi, if_neg (show ¬ j < p by omega), if_neg (show ¬ j = p by omega)]
    by_cases hi2 : i = p
    · rw [if_pos hi2]
      have hp2 : p < n := by omega
      have h1 : ¬ ks p < key := fun z => absurd ((c.2 p hp2).mp z) (Nat.lt_irrefl p)
      have h2 : ¬ ks p = key := fun z => nh ⟨hp2, z⟩
      have h3 : key < ks p := Int32.lt_iff_le_and_ne.mpr ⟨Int32.not_lt.mp h1, fun z => h2 z.symm⟩
      by_cases hj3 : j - 1 = p
      · rw [hj3]
        exact h3
      · exact Int32.lt_trans h3 (h p (j - 1) (by omega) (by omega))
    · rw [if_neg hi2]
      exact h (i - 1) (j - 1) (by omega) (by omega)
theorem rb_insA {n p : Nat} {x : Int32} {a b a' b' : Nat → Int32} (hp : p ≤ n) (e : rb_Agr n a b) (ha : rb_Ins n p x a a') (hb : rb_Ins n p x b b') : rb_Agr (n + 1) a' b' := by
  intro j hj
  rw [ha j hj, hb j hj]
  by_cases h1 : j < p
  · rw [if_pos h1, if_pos h1]
    exact e j (by omega)
  · rw [if_neg h1, if_neg h1]
    by_cases h2 : j = p
    · rw [if_pos h2, if_pos h2]
    · rw [if_neg h2, if_neg h2]
      exact e (j - 1) (by omega)
theorem rb_gapSrt {n a b : Nat} {ks ks' : Nat → Int32} (h : rb_Srt n ks) (e : rb_Gap n a b ks ks') : rb_Srt (n - (b - a)) ks' := by
  intro i j hij hj
  rw [e i (by omega), e j hj]
  by_cases hi : i < a
  · rw [if_pos hi]
    by_cases hj2 : j < a
    · rw [if_pos hj2]
      exact h i j hij (by omega)
    · rw [if_neg hj2]
      exact h i (j + (b - a)) (by omega) (by omega)
  · rw [if_neg hi, if_neg (show ¬ j < a by omega)]
    exact h (i + (b - a)) (j + (b - a)) (by omega) (by omega)
theorem rb_gapA {n a b : Nat} {x y x' y' : Nat → Int32} (e : rb_Agr n x y) (hx : rb_Gap n a b x x') (hy : rb_Gap n a b y y') : rb_Agr (n - (b - a)) x' y' := by
  intro j hj
  rw [hx j hj, hy j hj]
  by_cases h1 : j < a
  · rw [if_pos h1, if_pos h1]
    exact e j (by omega)
  · rw [if_neg h1, if_neg h1]
    exact e (j + (b - a)) (by omega)
theorem rb_gap0 (n a : Nat) (ks : Nat → Int32) : rb_Gap n a a ks ks := by
  intro j hj
  by_cases h : j < a
  · rw [if_pos h]
  · rw [if_neg h, Nat.sub_self, Nat.add_zero]
theorem rb_gap1 {n p b m : Nat} {ks ks1 ks2 : Nat → Int32} (hp : p + 1 ≤ b) (hb : b ≤ n) (hm : m = n - (b - (p + 1))) (h1 : rb_Gap n (p + 1) b ks ks1) (h2 : rb_Gap m p (p + 1) ks1 ks2) : rb_Gap n p b ks ks2 := by
  intro j hj
  rw [h2 j (by omega)]
  by_cases h : j < p
  · rw [if_pos h, if_pos h, h1 j (by omega), if_pos (show j < p + 1 by omega)]
  · rw [if_neg h, if_neg h, h1 (j + (p + 1 - p)) (by omega), if_neg (show ¬ j + (p + 1 - p) < p + 1 by omega)]
    exact congrArg ks (by omega)
theorem rb_cur_t {a b c : Nat} (h : b ≤ c) : rb_cur a b c = c - (b - a) := if_pos h
theorem rb_cur_m {a b c : Nat} (h : ¬ b ≤ c) (h2 : a < c) : rb_cur a b c = a := by
  unfold rb_cur
  rw [if_neg h, if_pos h2]
theorem rb_cur_f {a b c : Nat} (h : ¬ b ≤ c) (h2 : ¬ a < c) : rb_cur a b c = c := by
  unfold rb_cur
  rw [if_neg h, if_neg h2]
theorem rb_cur1 {p b c : Nat} (hp : p + 1 ≤ b) : (if p < rb_cur (p + 1) b c then rb_cur (p + 1) b c - 1 else rb_cur (p + 1) b c) = rb_cur p b c := by
  by_cases h1 : b ≤ c
  · rw [rb_cur_t h1, rb_cur_t h1, if_pos (show p < c - (b - (p + 1)) by omega)]
    omega
  · by_cases h2 : p + 1 < c
    · rw [rb_cur_m h1 h2, rb_cur_m h1 (show p < c by omega), if_pos (Nat.lt_succ_self p)]
      omega
    · rw [rb_cur_f h1 h2]
      by_cases h3 : p < c
      · rw [if_pos h3, rb_cur_m h1 h3]
        omega
      · rw [if_neg h3, rb_cur_f h1 h3]
theorem rb_cur_0 (a c : Nat) : rb_cur a a c = c := by
  by_cases h1 : a ≤ c
  · rw [rb_cur_t h1]
    omega
  · exact rb_cur_f h1 (by omega)
theorem rb_cur_s (p c : Nat) : rb_cur p (p + 1) c = if p < c then c - 1 else c := by
  by_cases h1 : p < c
  · rw [rb_cur_t (show p + 1 ≤ c by omega), if_pos h1]
    omega
  · rw [rb_cur_f (show ¬ p + 1 ≤ c by omega) h1, if_neg h1]
theorem rb_cur_le {n a b c : Nat} (hab : a ≤ b) (hb : b ≤ n) (hc : c ≤ n) : rb_cur a b c ≤ n - (b - a) := by
  by_cases h1 : b ≤ c
  · rw [rb_cur_t h1]
    omega
  · by_cases h2 : a < c
    · rw [rb_cur_m h1 h2]
      omega
    · rw [rb_cur_f h1 h2]
      omega
def rb_sum (ks vs : Nat → Int32) (lo hi : Int32) : Nat → Int64
  | 0 => 0
  | i + 1 => if lo ≤ ks i ∧ ks i ≤ hi then rb_sum ks vs lo hi i + (vs i).toInt64 else rb_sum ks vs lo hi i
theorem rb_sumA {a b c d : Nat → Int32} {lo hi : Int32} : ∀ n, rb_Agr n a b → rb_Agr n c d → rb_sum b d lo hi n = rb_sum a c lo hi n
  | 0, _, _ => rfl
  | n + 1, h1, h2 => by
    have e := rb_sumA (lo := lo) (hi := hi) n (fun j hj => h1 j (by omega)) (fun j hj => h2 j (by omega))
    show (if lo ≤ b n ∧ b n ≤ hi then rb_sum b d lo hi n + (d n).toInt64 else rb_sum b d lo hi n) = (if lo ≤ a n ∧ a n ≤ hi then rb_sum a c lo hi n + (c n).toInt64 else rb_sum a c lo hi n)
    rw [e, h1 n (by omega), h2 n (by omega)]
end
section
/-! the component's own methods, each against the pure picture, with a general post -/
theorem rb_p1 {c : Nat} (h : 0 < c) : nI c - 1 = nI (c - 1) := by
  obtain ⟨d, rfl⟩ : ∃ d, c = d + 1 := ⟨c - 1, by omega⟩
  exact nI_pred d
theorem rb_xbL {n p : Nat} (hn : n ≤ 48) (post : Int32 → Prop) (key fc : Int32) (ks vs : Nat → Int32) (C : rb_Cut n (fun i => ks i < key) p) (hp : post (nI p)) :
    ∀ d i : Nat, i + d = n → wX_countBelow_4 post key (nI n) fc ks vs (d + 1) (nI (i - (i - p))) (nI i) := by
  have hpn := C.1
  intro d
  induction d with
  | zero =>
    intro i hi
    have e : i - (i - p) = p := by omega
    rw [e]
    exact br_t (nI_le (by omega) (by omega)) hp
  | succ d ih =>
    intro i hi
    refine br_f (nI_ge (by omega) (by omega)) ⟨vp_in_nI (by omega) (by omega), ?_⟩
    rw [nI_clamp (n := i) (by omega)]
    by_cases z : ks i < key
    · have hip : i < p := (C.2 i (by omega)).mp z
      refine br_f (Int32.not_le.mpr z) (nm_r (nI_1 _) (nm_r (nI_1 _) ?_))
      have e : i - (i - p) + 1 = i + 1 - (i + 1 - p) := by omega
      rw [e]
      exact ih (i + 1) (by omega)
    · have hip : ¬ i < p := fun t => z ((C.2 i (by omega)).mpr t)
      refine br_t (Int32.not_lt.mp z) (nm_r (nI_1 _) ?_)
      have e : i - (i - p) = i + 1 - (i + 1 - p) := by omega
      rw [e]
      exact ih (i + 1) (by omega)
theorem rb_xb {n p : Nat} (hn : n ≤ 48) {post : Int32 → Prop} {key fc : Int32} {ks vs : Nat → Int32} (C : rb_Cut n (fun i => ks i < key) p) (hp : post (nI p)) : wpX_countBelow post (nI n, fc, ks, vs) key := by
  have h := rb_xbL hn post key fc ks vs C hp n 0 (by omega)
  rw [Nat.zero_sub] at h
  exact ⟨n + 1, h⟩
theorem rb_xuL {n p : Nat} (hn : n ≤ 48) (post : Int32 → Prop) (key fc : Int32) (ks vs : Nat → Int32) (C : rb_Cut n (fun i => ks i ≤ key) p) (hp : post (nI p)) :
    ∀ d i : Nat, i + d = n → wX_countUpTo_4 post key (nI n) fc ks vs (d + 1) (nI (i - (i - p))) (nI i) := by
  have hpn := C.1
  intro d
  induction d with
  | zero =>
    intro i hi
    have e : i - (i - p) = p := by omega
    rw [e]
    exact br_t (nI_le (by omega) (by omega)) hp
  | succ d ih =>
    intro i hi
    refine br_f (nI_ge (by omega) (by omega)) ⟨vp_in_nI (by omega) (by omega), ?_⟩
    rw [nI_clamp (n := i) (by omega)]
    by_cases z : ks i ≤ key
    · have hip : i < p := (C.2 i (by omega)).mp z
      refine br_f (Int32.not_lt.mpr z) (nm_r (nI_1 _) (nm_r (nI_1 _) ?_))
      have e : i - (i - p) + 1 = i + 1 - (i + 1 - p) := by omega
      rw [e]
      exact ih (i + 1) (by omega)
    · have hip : ¬ i < p := fun t => z ((C.2 i (by omega)).mpr t)
      refine br_t (Int32.not_le.mp z) (nm_r (nI_1 _) ?_)
      have e : i - (i - p) = i + 1 - (i + 1 - p) := by omega
      rw [e]
      exact ih (i + 1) (by omega)
theorem rb_xu {n p : Nat} (hn : n ≤ 48) {post : Int32 → Prop} {key fc : Int32} {ks vs : Nat → Int32} (C : rb_Cut n (fun i => ks i ≤ key) p) (hp : post (nI p)) : wpX_countUpTo post (nI n, fc, ks, vs) key := by
  have h := rb_xuL hn post key fc ks vs C hp n 0 (by omega)
  rw [Nat.zero_sub] at h
  exact ⟨n + 1, h⟩
theorem rb_xh1 {n p : Nat} (hn : n ≤ 48) {post : Int32 → Prop} {key fc : Int32} {ks vs : Nat → Int32} (h : p < n) (e : ks p = key) (hp : post 1) : wpX_holdsAt post (nI n, fc, ks, vs) (nI p) key :=
  br_f (nI_ge h (by omega)) ⟨vp_in_nI (by omega) (by omega), br_t (by rw [nI_clamp (n := p) (by omega)]; exact e) hp⟩
theorem rb_xh0 {n p : Nat} (hn : n ≤ 48) {post : Int32 → Prop} {key fc : Int32} {ks vs : Nat → Int32} (hpn : p ≤ n) (h : ¬ (p < n ∧ ks p = key)) (hp : post 0) : wpX_holdsAt post (nI n, fc, ks, vs) (nI p) key := by
  by_cases z : p < n
  · exact br_f (nI_ge z (by omega)) ⟨vp_in_nI (by omega) (by omega), br_f (by rw [nI_clamp (n := p) (by omega)]; exact fun t => h ⟨z, t⟩) hp⟩
  · exact br_t (nI_le (by omega) (by omega)) hp
def rb_Sh (n i : Nat) (ks a : Nat → Int32) : Prop := ∀ j, a j = if i < j ∧ j ≤ n then ks (j - 1) else ks j
theorem rb_sh0 (n : Nat) (ks : Nat → Int32) : rb_Sh n n ks ks := by
  intro j
  rw [if_neg (by omega)]
theorem rb_shS {n i : Nat} {ks a : Nat → Int32} (hi : i + 1 ≤ n) (h : rb_Sh n (i + 1) ks a) : rb_Sh n i ks (upd a (i + 1) (a i)) := by
  intro j
  by_cases e : j = i + 1
  · rw [e, pk_us, h i, if_neg (by omega), if_pos ⟨Nat.lt_succ_self i, hi⟩]
    rfl
  · rw [pk_un e, h j]
    by_cases z : i < j ∧ j ≤ n
    · rw [if_pos z, if_pos (by omega)]
    · rw [if_neg z, if_neg (by omega)]
theorem rb_shI {n p : Nat} {ks a : Nat → Int32} {x : Int32} (h : rb_Sh n p ks a) : rb_Ins n p x ks (upd a p x) := by
  intro j hj
  by_cases e : j = p
  · rw [if_neg (by omega), if_pos e, e, pk_us]
  · rw [pk_un e, h j]
    by_cases z : j < p
    · rw [if_pos z, if_neg (by omega)]
    · rw [if_neg z, if_neg e, if_pos (by omega)]
theorem rb_xoL {n p c : Nat} (hn : n < 48) (hc : c ≤ n) (post : SX → Prop) (ks vs : Nat → Int32)
    (H : ∀ a b, rb_Sh n p ks a → rb_Sh n p vs b → post (nI (n + 1), nI (if p ≤ c then c + 1 else c), a, b)) :
    ∀ (d i : Nat) (a b : Nat → Int32), p + d = i → i ≤ n → rb_Sh n i ks a → rb_Sh n i vs b → wX_openGap_5 post (nI p) (nI n) (nI c) (d + 1) (nI i) a b := by
  intro d
  induction d with
  | zero =>
    intro i a b hi hin ha hb
    obtain rfl : p = i := by omega
    have h := H a b ha hb
    refine br_t (nI_le (by omega) (by omega)) (nm_r (nI_1 n) ?_)
    by_cases z : p ≤ c
    · rw [if_pos z] at h
      exact br_f (nI_nlt z (by omega)) (nm_r (nI_1 c) h)
    · rw [if_neg z] at h
      exact br_t (nI_lt (by omega) (by omega)) h
  | succ d ih =>
    intro i a b hi hin ha hb
    obtain ⟨m, rfl⟩ : ∃ m, i = m + 1 := ⟨i - 1, by omega⟩
    refine br_f (nI_ge (by omega) (by omega)) ?_
    rw [nI_pred m, nI_clamp (n := m) (by omega), nI_clamp (n := m + 1) (by omega)]
    refine ⟨vp_in_nI (by omega) (by omega), vp_in_nI (by omega) (by omega), nm_e ⟨vp_in_nI (by omega) (by omega), vp_in_nI (by omega) (by omega), nm_e (nm_r (pk_m1 m) ?_)⟩⟩
    exact ih m _ _ (by omega) (by omega) (rb_shS hin ha) (rb_shS hin hb)
theorem rb_xo {n p c : Nat} (hn : n < 48) (hc : c ≤ n) (hp : p ≤ n) {post : SX → Prop} {ks vs : Nat → Int32}
    (H : ∀ a b, rb_Sh n p ks a → rb_Sh n p vs b → post (nI (n + 1), nI (if p ≤ c then c + 1 else c), a, b)) : wpX_openGap post (nI n, nI c, ks, vs) (nI p) :=
  ⟨n - p + 1, rb_xoL hn hc post ks vs H (n - p) n ks vs (by omega) (by omega) (rb_sh0 n ks) (rb_sh0 n vs)⟩
def rb_Cl (a w i : Nat) (ks x : Nat → Int32) : Prop := ∀ j, x j = if a ≤ j ∧ j + w < i then ks (j + w) else ks j
theorem rb_cl0 {a w i : Nat} (hi : i ≤ a + w) (ks : Nat → Int32) : rb_Cl a w i ks ks := by
  intro j
  rw [if_neg (by omega)]
theorem rb_clS {a w i k : Nat} {ks x : Nat → Int32} (hi : a + w ≤ i) (hk : k = i - w) (h : rb_Cl a w i ks x) : rb_Cl a w (i + 1) ks (upd x k (x i)) := by
  intro j
  by_cases e : j = k
  · rw [e, pk_us, h i, if_neg (by omega), if_pos (by omega)]
    exact congrArg ks (by omega)
  · rw [pk_un e, h j]
    by_cases z : a ≤ j ∧ j + w < i
    · rw [if_pos z, if_pos (by omega)]
    · rw [if_neg z, if_neg (by omega)]
theorem rb_clG {n a b w : Nat} {ks x : Nat → Int32} (hw : w = b - a) (h : rb_Cl a w n ks x) : rb_Gap n a b ks x := by
  intro j hj
  subst hw
  rw [h j]
  by_cases z : j < a
  · rw [if_pos z, if_neg (by omega)]
  · rw [if_neg z, if_pos (by omega)]
theorem rb_xcL {n a b c : Nat} (hn : n ≤ 48) (hab : a ≤ b) (hb : b ≤ n) (hc : c ≤ n) (post : SX → Prop) (ks vs : Nat → Int32)
    (H : ∀ x y, rb_Gap n a b ks x → rb_Gap n a b vs y → post (nI (n - (b - a)), nI (rb_cur a b c), x, y)) :
    ∀ (d i : Nat) (x y : Nat → Int32), i + d = n → b ≤ i → rb_Cl a (b - a) i ks x → rb_Cl a (b - a) i vs y → wX_closeGap_7 post (nI a) (nI b) (nI (b - a)) (nI n) (nI c) (d + 1) (nI i) x y := by
  intro d
  induction d with
  | zero =>
    intro i x y hi hbi hx hy
    obtain rfl : i = n := by omega
    have h := H x y (rb_clG rfl hx) (rb_clG rfl hy)
    refine br_t (nI_le (by omega) (by omega)) (nm_r (pk_sub (by omega)) ?_)
    by_cases h1 : b ≤ c
    · rw [rb_cur_t h1] at h
      exact br_f (nI_nlt h1 (by omega)) (nm_r (pk_sub (by omega)) h)
    · by_cases h2 : a < c
      · rw [rb_cur_m h1 h2] at h
        exact br_t (nI_lt (by omega) (by omega)) (br_f (nI_ge h2 (by omega)) h)
      · rw [rb_cur_f h1 h2] at h
        exact br_t (nI_lt (by omega) (by omega)) (br_t (nI_le (by omega) (by omega)) h)
  | succ d ih =>
    intro i x y hi hbi hx hy
    refine br_f (nI_ge (by omega) (by omega)) ?_
    rw [pk_sub (a := i) (b := b - a) (by omega), nI_clamp (n := i) (by omega), nI_clamp (n := i - (b - a)) (by omega)]
    refine ⟨vp_in_nI (by omega) (by omega), vp_in_nI (by omega) (by omega), nm_e ⟨vp_in_nI (by omega) (by omega), vp_in_nI (by omega) (by omega), nm_e (nm_r (nI_1 i) ?_)⟩⟩
    exact ih (i + 1) _ _ (by omega) (by omega) (rb_clS (by omega) rfl hx) (rb_clS (by omega) rfl hy)
theorem rb_xc {n a b c : Nat} (hn : n ≤ 48) (hab : a ≤ b) (hb : b ≤ n) (hc : c ≤ n) {post : SX → Prop} {ks vs : Nat → Int32}
    (H : ∀ x y, rb_Gap n a b ks x → rb_Gap n a b vs y → post (nI (n - (b - a)), nI (rb_cur a b c), x, y)) : wpX_closeGap post (nI n, nI c, ks, vs) (nI a) (nI b) :=
  nm_r (pk_sub hab) ⟨n - b + 1, rb_xcL hn hab hb hc post ks vs H (n - b) b ks vs (by omega) (by omega) (rb_cl0 (by omega) ks) (rb_cl0 (by omega) vs)⟩
theorem rb_xsL {n : Nat} (hn : n ≤ 48) (post : Int64 → Prop) (lo hi fc : Int32) (ks vs : Nat → Int32) (H : post (rb_sum ks vs lo hi n)) :
    ∀ d i : Nat, i + d = n → wX_sum_5 post lo hi (nI n) fc ks vs (d + 1) (rb_sum ks vs lo hi i) (nI i) := by
  intro d
  induction d with
  | zero =>
    intro i hin
    obtain rfl : i = n := by omega
    exact br_t (nI_le (by omega) (by omega)) H
  | succ d ih =>
    intro i hin
    have hS := ih (i + 1) (by omega)
    refine br_f (nI_ge (by omega) (by omega)) ⟨vp_in_nI (by omega) (by omega), ?_⟩
    rw [nI_clamp (n := i) (by omega)]
    by_cases z1 : ks i < lo
    · have e : rb_sum ks vs lo hi (i + 1) = rb_sum ks vs lo hi i := if_neg (fun t => absurd z1 (Int32.not_lt.mpr t.1))
      rw [e] at hS
      exact br_t z1 (nm_r (nI_1 i) hS)
    · refine br_f z1 ⟨vp_in_nI (by omega) (by omega), ?_⟩
      by_cases z2 : hi < ks i
      · have e : rb_sum ks vs lo hi (i + 1) = rb_sum ks vs lo hi i := if_neg (fun t => absurd z2 (Int32.not_lt.mpr t.2))
        rw [e] at hS
        exact br_t z2 (nm_r (nI_1 i) hS)
      · have e : rb_sum ks vs lo hi (i + 1) = rb_sum ks vs lo hi i + (vs i).toInt64 := if_pos ⟨Int32.not_lt.mp z1, Int32.not_lt.mp z2⟩
        exact br_f z2 ⟨vp_in_nI (by omega) (by omega), nm_r e.symm (nm_r (nI_1 i) hS)⟩
theorem rb_xs {n : Nat} (hn : n ≤ 48) {post : Int64 → Prop} {lo hi fc : Int32} {ks vs : Nat → Int32} (H : post (rb_sum ks vs lo hi n)) : wpX_sum post (nI n, fc, ks, vs) lo hi :=
  ⟨n + 1, rb_xsL hn post lo hi fc ks vs H n 0 (by omega)⟩
theorem rb_xput1 {n p : Nat} (hn : n ≤ 48) {post : Int32 → SX → Prop} {key val fc : Int32} {ks vs : Nat → Int32} (C : rb_Cut n (fun i => ks i < key) p) (h : p < n) (e : ks p = key)
    (H : post 0 (nI n, fc, ks, upd vs p val)) : wpX_put post (nI n, fc, ks, vs) key val := by
  unfold wpX_put
  dsimp only
  refine rb_xb hn C ?_
  refine rb_xh1 hn h e ?_
  rw [nI_clamp (n := p) (by omega)]
  exact br_f (by decide) ⟨vp_in_nI (by omega) (by omega), nm_e H⟩
theorem rb_xput2 {n p c : Nat} (hn : n < 48) (hc : c ≤ n) {post : Int32 → SX → Prop} {key val : Int32} {ks vs : Nat → Int32} (C : rb_Cut n (fun i => ks i < key) p) (h : ¬ (p < n ∧ ks p = key))
    (H : ∀ a b, rb_Ins n p key ks a → rb_Ins n p val vs b → post 1 (nI (n + 1), nI (if p ≤ c then c + 1 else c), a, b)) : wpX_put post (nI n, nI c, ks, vs) key val := by
  have hpn := C.1
  unfold wpX_put
  dsimp only
  refine rb_xb (by omega) C ?_
  refine rb_xh0 (by omega) hpn h ?_
  refine br_t rfl (br_t (nI_lt (b := 48) hn (by decide)) ?_)
  refine rb_xo hn hc hpn ?_
  intro a b ha hb
  dsimp only
  rw [nI_clamp (n := p) (by omega)]
  exact ⟨vp_in_nI (by omega) (by omega), nm_e ⟨vp_in_nI (by omega) (by omega), nm_e (H _ _ (rb_shI ha) (rb_shI hb))⟩⟩
theorem rb_xput3 {n p : Nat} (hn : n = 48) {post : Int32 → SX → Prop} {key val fc : Int32} {ks vs : Nat → Int32} (C : rb_Cut n (fun i => ks i < key) p) (h : ¬ (p < n ∧ ks p = key))
    (H : post (-1) (nI n, fc, ks, vs)) : wpX_put post (nI n, fc, ks, vs) key val := by
  have hpn := C.1
  unfold wpX_put
  dsimp only
  refine rb_xb (by omega) C ?_
  refine rb_xh0 (by omega) hpn h ?_
  exact br_t rfl (br_f (nI_nlt (b := 48) (by omega) (by omega)) H)
theorem rb_xrem1 {n p c : Nat} (hn : n ≤ 48) (hc : c ≤ n) {post : Int32 → SX → Prop} {key : Int32} {ks vs : Nat → Int32} (C : rb_Cut n (fun i => ks i < key) p) (h : p < n) (e : ks p = key)
    (H : ∀ x y, rb_Gap n p (p + 1) ks x → rb_Gap n p (p + 1) vs y → post 1 (nI (n - (p + 1 - p)), nI (rb_cur p (p + 1) c), x, y)) : wpX_remove post (nI n, nI c, ks, vs) key := by
  unfold wpX_remove
  dsimp only
  refine rb_xb hn C ?_
  refine rb_xh1 hn h e ?_
  refine br_f (by decide) ?_
  rw [nI_1 p]
  refine rb_xc hn (by omega) (by omega) hc ?_
  intro x y hx hy
  exact H x y hx hy
theorem rb_xrem0 {n p : Nat} (hn : n ≤ 48) {post : Int32 → SX → Prop} {key fc : Int32} {ks vs : Nat → Int32} (C : rb_Cut n (fun i => ks i < key) p) (h : ¬ (p < n ∧ ks p = key))
    (H : post 0 (nI n, fc, ks, vs)) : wpX_remove post (nI n, fc, ks, vs) key := by
  unfold wpX_remove
  dsimp only
  refine rb_xb hn C ?_
  refine rb_xh0 hn C.1 h ?_
  exact br_t rfl H
theorem rb_xget1 {n p : Nat} (hn : n ≤ 48) {post : Int32 → Prop} {key fc : Int32} {ks vs : Nat → Int32} (C : rb_Cut n (fun i => ks i < key) p) (h : p < n) (e : ks p = key)
    (H : post (vs p)) : wpX_get post (nI n, fc, ks, vs) key := by
  unfold wpX_get
  dsimp only
  refine rb_xb hn C ?_
  refine rb_xh1 hn h e ?_
  rw [nI_clamp (n := p) (by omega)]
  exact br_f (by decide) ⟨vp_in_nI (by omega) (by omega), H⟩
theorem rb_xget0 {n p : Nat} (hn : n ≤ 48) {post : Int32 → Prop} {key fc : Int32} {ks vs : Nat → Int32} (C : rb_Cut n (fun i => ks i < key) p) (h : ¬ (p < n ∧ ks p = key))
    (H : post 0) : wpX_get post (nI n, fc, ks, vs) key := by
  unfold wpX_get
  dsimp only
  refine rb_xb hn C ?_
  refine rb_xh0 hn C.1 h ?_
  exact br_t rfl H
theorem rb_xplace1 {n p : Nat} (hn : n ≤ 48) {post : Int32 → Prop} {key fc : Int32} {ks vs : Nat → Int32} (C : rb_Cut n (fun i => ks i < key) p) (h : p < n) (e : ks p = key)
    (H : post (nI p)) : wpX_place post (nI n, fc, ks, vs) key := by
  unfold wpX_place
  dsimp only
  refine rb_xb hn C ?_
  refine rb_xh1 hn h e ?_
  exact br_f (by decide) H
theorem rb_xplace0 {n p : Nat} (hn : n ≤ 48) {post : Int32 → Prop} {key fc : Int32} {ks vs : Nat → Int32} (C : rb_Cut n (fun i => ks i < key) p) (h : ¬ (p < n ∧ ks p = key))
    (H : post (-1)) : wpX_place post (nI n, fc, ks, vs) key := by
  unfold wpX_place
  dsimp only
  refine rb_xb hn C ?_
  refine rb_xh0 hn C.1 h ?_
  exact br_t rfl H
theorem rb_xseek {n p : Nat} (hn : n ≤ 48) {post : Int32 → SX → Prop} {key fc : Int32} {ks vs : Nat → Int32} (C : rb_Cut n (fun i => ks i < key) p)
    (H : post (nI p) (nI n, nI p, ks, vs)) : wpX_seek post (nI n, fc, ks, vs) key := by
  unfold wpX_seek
  dsimp only
  refine rb_xb hn C ?_
  exact H
end
section
/-! the reference's own methods, each against the pure picture, with a general post -/
theorem rb_ybL {n p : Nat} (hn : n ≤ 48) (post : Int32 → Prop) (key fc : Int32) (ks vs : Nat → Int32) (C : rb_Cut n (fun i => ks i < key) p) (hp : post (nI p)) :
    ∀ d i : Nat, i + d = p → wY_below_2 post key (nI n) fc ks vs (d + 1) (nI i) := by
  have hpn := C.1
  intro d
  induction d with
  | zero =>
    intro i hi
    obtain rfl : i = p := by omega
    by_cases z : i < n
    · have h1 : ¬ ks i < key := fun t => absurd ((C.2 i z).mp t) (Nat.lt_irrefl i)
      refine br_f (nI_ge z (by omega)) ⟨vp_in_nI (by omega) (by omega), ?_⟩
      rw [nI_clamp (n := i) (by omega)]
      exact br_t (Int32.not_lt.mp h1) hp
    · exact br_t (nI_le (by omega) (by omega)) hp
  | succ d ih =>
    intro i hi
    have h1 : ks i < key := (C.2 i (by omega)).mpr (by omega)
    refine br_f (nI_ge (by omega) (by omega)) ⟨vp_in_nI (by omega) (by omega), ?_⟩
    rw [nI_clamp (n := i) (by omega)]
    exact br_f (Int32.not_le.mpr h1) (nm_r (nI_1 i) (ih (i + 1) (by omega)))
theorem rb_yb {n p : Nat} (hn : n ≤ 48) {post : Int32 → Prop} {key fc : Int32} {ks vs : Nat → Int32} (C : rb_Cut n (fun i => ks i < key) p) (hp : post (nI p)) : wpY_below post (nI n, fc, ks, vs) key :=
  ⟨p + 1, rb_ybL hn post key fc ks vs C hp p 0 (by omega)⟩
theorem rb_yh1 {n p : Nat} (hn : n ≤ 48) {post : Int32 → Prop} {key fc : Int32} {ks vs : Nat → Int32} (C : rb_Cut n (fun i => ks i < key) p) (h : p < n) (e : ks p = key) (hp : post 1) : wpY_holds post (nI n, fc, ks, vs) key := by
  unfold wpY_holds
  dsimp only
  refine rb_yb hn C ?_
  rw [nI_clamp (n := p) (by omega)]
  exact br_f (nI_ge h (by omega)) ⟨vp_in_nI (by omega) (by omega), br_t e hp⟩
theorem rb_yh0 {n p : Nat} (hn : n ≤ 48) {post : Int32 → Prop} {key fc : Int32} {ks vs : Nat → Int32} (C : rb_Cut n (fun i => ks i < key) p) (h : ¬ (p < n ∧ ks p = key)) (hp : post 0) : wpY_holds post (nI n, fc, ks, vs) key := by
  have hpn := C.1
  unfold wpY_holds
  dsimp only
  refine rb_yb hn C ?_
  rw [nI_clamp (n := p) (by omega)]
  by_cases z : p < n
  · exact br_f (nI_ge z (by omega)) ⟨vp_in_nI (by omega) (by omega), br_f (fun t => h ⟨z, t⟩) hp⟩
  · exact br_t (nI_le (by omega) (by omega)) hp
theorem rb_ypL {n p c : Nat} (hn : n < 48) (hp : p ≤ n) (hc : c ≤ n) (post : Int32 → SY → Prop) (key val : Int32) (ks vs : Nat → Int32)
    (H : ∀ a b, rb_Ins n p key ks a → rb_Ins n p val vs b → post 1 (nI (n + 1), nI (if p ≤ c then c + 1 else c), a, b)) :
    ∀ (d i : Nat) (a b : Nat → Int32), p + d = i → i ≤ n → rb_Sh n i ks a → rb_Sh n i vs b → wY_put_40 post key val (nI p) (nI n) (nI c) (d + 1) (nI i) a b := by
  intro d
  induction d with
  | zero =>
    intro i a b hi hin ha hb
    obtain rfl : p = i := by omega
    have h := H _ _ (rb_shI (x := key) ha) (rb_shI (x := val) hb)
    refine br_t (nI_le (by omega) (by omega)) ?_
    rw [nI_clamp (n := p) (by omega)]
    refine ⟨vp_in_nI (by omega) (by omega), nm_e ⟨vp_in_nI (by omega) (by omega), nm_e ?_⟩⟩
    by_cases z : p ≤ c
    · rw [if_pos z] at h
      have h117 : wY_put_117 post (nI n) (nI c) (upd a p key) (upd b p val) := by
        unfold wY_put_117
        refine nm_r (nI_1 c) ?_
        unfold wY_put_127
        exact nm_r (nI_1 n) h
      by_cases q : c = n
      · exact br_t (by rw [q]) h117
      · exact br_f (fun t => q ((nI_eq (by omega) (by omega)).mp t)) (br_f (nI_nlt z (by omega)) h117)
    · rw [if_neg z] at h
      have h127 : wY_put_127 post (nI n) (nI c) (upd a p key) (upd b p val) := by
        unfold wY_put_127
        exact nm_r (nI_1 n) h
      have q : ¬ c = n := by omega
      exact br_f (fun t => q ((nI_eq (by omega) (by omega)).mp t)) (br_t (nI_lt (by omega) (by omega)) h127)
  | succ d ih =>
    intro i a b hi hin ha hb
    obtain ⟨m, rfl⟩ : ∃ m, i = m + 1 := ⟨i - 1, by omega⟩
    refine br_f (nI_ge (by omega) (by omega)) ?_
    rw [nI_pred m, nI_clamp (n := m) (by omega), nI_clamp (n := m + 1) (by omega)]
    refine ⟨vp_in_nI (by omega) (by omega), vp_in_nI (by omega) (by omega), nm_e ⟨vp_in_nI (by omega) (by omega), vp_in_nI (by omega) (by omega), nm_e (nm_r (pk_m1 m) ?_)⟩⟩
    exact ih m _ _ (by omega) (by omega) (rb_shS hin ha) (rb_shS hin hb)
theorem rb_yput1 {n p : Nat} (hn : n ≤ 48) {post : Int32 → SY → Prop} {key val fc : Int32} {ks vs : Nat → Int32} (C : rb_Cut n (fun i => ks i < key) p) (h : p < n) (e : ks p = key)
    (H : post 0 (nI n, fc, ks, upd vs p val)) : wpY_put post (nI n, fc, ks, vs) key val := by
  unfold wpY_put
  dsimp only
  refine rb_yb hn C ?_
  refine rb_yh1 hn C h e ?_
  rw [nI_clamp (n := p) (by omega)]
  exact br_f (by decide) ⟨vp_in_nI (by omega) (by omega), nm_e H⟩
theorem rb_yput2 {n p c : Nat} (hn : n < 48) (hc : c ≤ n) {post : Int32 → SY → Prop} {key val : Int32} {ks vs : Nat → Int32} (C : rb_Cut n (fun i => ks i < key) p) (h : ¬ (p < n ∧ ks p = key))
    (H : ∀ a b, rb_Ins n p key ks a → rb_Ins n p val vs b → post 1 (nI (n + 1), nI (if p ≤ c then c + 1 else c), a, b)) : wpY_put post (nI n, nI c, ks, vs) key val := by
  have hpn := C.1
  unfold wpY_put
  dsimp only
  refine rb_yb (by omega) C ?_
  refine rb_yh0 (by omega) C h ?_
  have q : ¬ nI n = 48 := fun t => absurd ((nI_eq (b := 48) (by omega) (by decide)).mp t) (by omega)
  refine br_t rfl (br_f q ?_)
  exact ⟨n - p + 1, rb_ypL hn hpn hc post key val ks vs H (n - p) n ks vs (by omega) (by omega) (rb_sh0 n ks) (rb_sh0 n vs)⟩
theorem rb_yput3 {n p : Nat} (hn : n = 48) {post : Int32 → SY → Prop} {key val fc : Int32} {ks vs : Nat → Int32} (C : rb_Cut n (fun i => ks i < key) p) (h : ¬ (p < n ∧ ks p = key))
    (H : post (-1) (nI n, fc, ks, vs)) : wpY_put post (nI n, fc, ks, vs) key val := by
  unfold wpY_put
  dsimp only
  refine rb_yb (by omega) C ?_
  refine rb_yh0 (by omega) C h ?_
  have q : nI n = 48 := by rw [hn]; rfl
  exact br_t rfl (br_t q H)
theorem rb_yrL {n p c : Nat} (hn : n ≤ 48) (hp : p < n) (hc : c ≤ n) (post : Int32 → SY → Prop) (ks vs : Nat → Int32)
    (H : ∀ x y, rb_Gap n p (p + 1) ks x → rb_Gap n p (p + 1) vs y → post 1 (nI (n - 1), nI (if p < c then c - 1 else c), x, y)) :
    ∀ (d i : Nat) (x y : Nat → Int32), i + d + 1 = n → p ≤ i → rb_Cl p 1 (i + 1) ks x → rb_Cl p 1 (i + 1) vs y → wY_remove_28 post (nI p) (nI (n - 1)) (nI c) (d + 1) (nI i) x y := by
  intro d
  induction d with
  | zero =>
    intro i x y hi hpi hx hy
    obtain rfl : n = i + 1 := by omega
    have h := H x y (rb_clG (by omega) hx) (rb_clG (by omega) hy)
    refine br_t (nI_le (by omega) (by omega)) ?_
    by_cases z : p < c
    · rw [if_pos z] at h
      exact br_f (nI_ge z (by omega)) (nm_r (rb_p1 (by omega)) h)
    · rw [if_neg z] at h
      exact br_t (nI_le (by omega) (by omega)) h
  | succ d ih =>
    intro i x y hi hpi hx hy
    refine br_f (nI_ge (by omega) (by omega)) ?_
    rw [nI_1 i, nI_clamp (n := i) (by omega), nI_clamp (n := i + 1) (by omega)]
    refine ⟨vp_in_nI (by omega) (by omega), vp_in_nI (by omega) (by omega), nm_e ⟨vp_in_nI (by omega) (by omega), vp_in_nI (by omega) (by omega), nm_e (nm_e ?_)⟩⟩
    exact ih (i + 1) _ _ (by omega) (by omega) (rb_clS (by omega) rfl hx) (rb_clS (by omega) rfl hy)
theorem rb_yrem1 {n p c : Nat} (hn : n ≤ 48) (hc : c ≤ n) {post : Int32 → SY → Prop} {key : Int32} {ks vs : Nat → Int32} (C : rb_Cut n (fun i => ks i < key) p) (h : p < n) (e : ks p = key)
    (H : ∀ x y, rb_Gap n p (p + 1) ks x → rb_Gap n p (p + 1) vs y → post 1 (nI (n - 1), nI (if p < c then c - 1 else c), x, y)) : wpY_remove post (nI n, nI c, ks, vs) key := by
  unfold wpY_remove
  dsimp only
  refine rb_yh1 hn C h e ?_
  refine br_f (by decide) ?_
  refine rb_yb hn C ?_
  refine nm_r (rb_p1 (by omega)) ?_
  exact ⟨n - 1 - p + 1, rb_yrL hn h hc post ks vs H (n - 1 - p) p ks vs (by omega) (by omega) (rb_cl0 (by omega) ks) (rb_cl0 (by omega) vs)⟩
theorem rb_yrem0 {n p : Nat} (hn : n ≤ 48) {post : Int32 → SY → Prop} {key fc : Int32} {ks vs : Nat → Int32} (C : rb_Cut n (fun i => ks i < key) p) (h : ¬ (p < n ∧ ks p = key))
    (H : post 0 (nI n, fc, ks, vs)) : wpY_remove post (nI n, fc, ks, vs) key := by
  unfold wpY_remove
  dsimp only
  refine rb_yh0 hn C h ?_
  exact br_t rfl H
theorem rb_yget1 {n p : Nat} (hn : n ≤ 48) {post : Int32 → Prop} {key fc : Int32} {ks vs : Nat → Int32} (C : rb_Cut n (fun i => ks i < key) p) (h : p < n) (e : ks p = key)
    (H : post (vs p)) : wpY_get post (nI n, fc, ks, vs) key := by
  unfold wpY_get
  dsimp only
  refine rb_yb hn C ?_
  refine rb_yh1 hn C h e ?_
  rw [nI_clamp (n := p) (by omega)]
  exact br_f (by decide) ⟨vp_in_nI (by omega) (by omega), H⟩
theorem rb_yget0 {n p : Nat} (hn : n ≤ 48) {post : Int32 → Prop} {key fc : Int32} {ks vs : Nat → Int32} (C : rb_Cut n (fun i => ks i < key) p) (h : ¬ (p < n ∧ ks p = key))
    (H : post 0) : wpY_get post (nI n, fc, ks, vs) key := by
  unfold wpY_get
  dsimp only
  refine rb_yb hn C ?_
  refine rb_yh0 hn C h ?_
  exact br_t rfl H
theorem rb_yplace1 {n p : Nat} (hn : n ≤ 48) {post : Int32 → Prop} {key fc : Int32} {ks vs : Nat → Int32} (C : rb_Cut n (fun i => ks i < key) p) (h : p < n) (e : ks p = key)
    (H : post (nI p)) : wpY_place post (nI n, fc, ks, vs) key := by
  unfold wpY_place
  dsimp only
  refine rb_yh1 hn C h e ?_
  refine br_f (by decide) ?_
  exact rb_yb hn C H
theorem rb_yplace0 {n p : Nat} (hn : n ≤ 48) {post : Int32 → Prop} {key fc : Int32} {ks vs : Nat → Int32} (C : rb_Cut n (fun i => ks i < key) p) (h : ¬ (p < n ∧ ks p = key))
    (H : post (-1)) : wpY_place post (nI n, fc, ks, vs) key := by
  unfold wpY_place
  dsimp only
  refine rb_yh0 hn C h ?_
  exact br_t rfl H
theorem rb_yseek {n p : Nat} (hn : n ≤ 48) {post : Int32 → SY → Prop} {key fc : Int32} {ks vs : Nat → Int32} (C : rb_Cut n (fun i => ks i < key) p)
    (H : post (nI p) (nI n, nI p, ks, vs)) : wpY_seek post (nI n, fc, ks, vs) key := by
  unfold wpY_seek
  dsimp only
  refine rb_yb hn C ?_
  exact H
def rb_Rg (n a b : Nat) (lo hi : Int32) (ks : Nat → Int32) : Prop := ∀ i, i < n → ((lo ≤ ks i ∧ ks i ≤ hi) ↔ (a ≤ i ∧ i < b))
theorem rb_ycL {n a b : Nat} (hn : n ≤ 48) (hab : a ≤ b) (hb : b ≤ n) (post : Int32 → Prop) (lo hi fc : Int32) (ks vs : Nat → Int32) (R : rb_Rg n a b lo hi ks) (H : post (nI (b - a))) :
    ∀ d i : Nat, i + d = n → wY_count_5 post lo hi (nI n) fc ks vs (d + 1) (nI ((i - a) - (i - b))) (nI i) := by
  intro d
  induction d with
  | zero =>
    intro i hin
    have e : (i - a) - (i - b) = b - a := by omega
    rw [e]
    exact br_t (nI_le (by omega) (by omega)) H
  | succ d ih =>
    intro i hin
    have hS := ih (i + 1) (by omega)
    have hR := R i (by omega)
    refine br_f (nI_ge (by omega) (by omega)) ⟨vp_in_nI (by omega) (by omega), ?_⟩
    rw [nI_clamp (n := i) (by omega)]
    by_cases z1 : ks i < lo
    · have q : ¬ (a ≤ i ∧ i < b) := fun t => absurd z1 (Int32.not_lt.mpr (hR.mpr t).1)
      have e : (i + 1 - a) - (i + 1 - b) = (i - a) - (i - b) := by omega
      rw [e] at hS
      exact br_t z1 (nm_r (nI_1 i) hS)
    · refine br_f z1 ⟨vp_in_nI (by omega) (by omega), ?_⟩
      by_cases z2 : hi < ks i
      · have q : ¬ (a ≤ i ∧ i < b) := fun t => absurd z2 (Int32.not_lt.mpr (hR.mpr t).2)
        have e : (i + 1 - a) - (i + 1 - b) = (i - a) - (i - b) := by omega
        rw [e] at hS
        exact br_t z2 (nm_r (nI_1 i) hS)
      · have q : a ≤ i ∧ i < b := hR.mp ⟨Int32.not_lt.mp z1, Int32.not_lt.mp z2⟩
        have e : (i + 1 - a) - (i + 1 - b) = (i - a) - (i - b) + 1 := by omega
        rw [e] at hS
        exact br_f z2 (nm_r (nI_1 _) (nm_r (nI_1 i) hS))
theorem rb_yc {n a b : Nat} (hn : n ≤ 48) (hab : a ≤ b) (hb : b ≤ n) {post : Int32 → Prop} {lo hi fc : Int32} {ks vs : Nat → Int32} (R : rb_Rg n a b lo hi ks) (H : post (nI (b - a))) : wpY_count post (nI n, fc, ks, vs) lo hi := by
  have h := rb_ycL hn hab hb post lo hi fc ks vs R H n 0 (by omega)
  rw [Nat.zero_sub, Nat.zero_sub] at h
  exact ⟨n + 1, h⟩
theorem rb_ysL {n : Nat} (hn : n ≤ 48) (post : Int64 → Prop) (lo hi fc : Int32) (ks vs : Nat → Int32) (H : post (rb_sum ks vs lo hi n)) :
    ∀ d i : Nat, i + d = n → wY_sum_5 post lo hi (nI n) fc ks vs (d + 1) (rb_sum ks vs lo hi i) (nI i) := by
  intro d
  induction d with
  | zero =>
    intro i hin
    obtain rfl : i = n := by omega
    exact br_t (nI_le (by omega) (by omega)) H
  | succ d ih =>
    intro i hin
    have hS := ih (i + 1) (by omega)
    refine br_f (nI_ge (by omega) (by omega)) ⟨vp_in_nI (by omega) (by omega), ?_⟩
    rw [nI_clamp (n := i) (by omega)]
    by_cases z1 : ks i < lo
    · have e : rb_sum ks vs lo hi (i + 1) = rb_sum ks vs lo hi i := if_neg (fun t => absurd z1 (Int32.not_lt.mpr t.1))
      rw [e] at hS
      exact br_t z1 (nm_r (nI_1 i) hS)
    · refine br_f z1 ⟨vp_in_nI (by omega) (by omega), ?_⟩
      by_cases z2 : hi < ks i
      · have e : rb_sum ks vs lo hi (i + 1) = rb_sum ks vs lo hi i := if_neg (fun t => absurd z2 (Int32.not_lt.mpr t.2))
        rw [e] at hS
        exact br_t z2 (nm_r (nI_1 i) hS)
      · have e : rb_sum ks vs lo hi (i + 1) = rb_sum ks vs lo hi i + (vs i).toInt64 := if_pos ⟨Int32.not_lt.mp z1, Int32.not_lt.mp z2⟩
        exact br_f z2 ⟨vp_in_nI (by omega) (by omega), nm_r e.symm (nm_r (nI_1 i) hS)⟩
theorem rb_ys {n : Nat} (hn : n ≤ 48) {post : Int64 → Prop} {lo hi fc : Int32} {ks vs : Nat → Int32} (H : post (rb_sum ks vs lo hi n)) : wpY_sum post (nI n, fc, ks, vs) lo hi :=
  ⟨n + 1, rb_ysL hn post lo hi fc ks vs H n 0 (by omega)⟩
theorem rb_cutSelf {n m : Nat} {x : Nat → Int32} (h : rb_Srt n x) (hm : m < n) : rb_Cut n (fun i => x i < x m) m := by
  refine ⟨by omega, fun i hi => ⟨fun t => ?_, fun t => h i m t hm⟩⟩
  have t' : x i < x m := t
  by_cases z : i < m
  · exact z
  · by_cases e : i = m
    · rw [e] at t'
      exact absurd t' Int32.lt_irrefl
    · exact absurd (Int32.lt_trans t' (h m i (by omega) hi)) Int32.lt_irrefl
def rb_K (a b m g : Nat) : Prop := a ≤ g ∧ g ≤ b ∧ (g = b ∨ m ≤ g) ∧ (g = a ∨ g ≤ m)
theorem rb_yaL {n a b c : Nat} (hn : n ≤ 48) (hab : a ≤ b) (hb : b ≤ n) (hc : c ≤ n) (post : Int32 → SY → Prop) (lo hi : Int32) (ks vs : Nat → Int32) (hS : rb_Srt n ks) (R : rb_Rg n a b lo hi ks)
    (H : ∀ x y, rb_Gap n a b ks x → rb_Gap n a b vs y → post (nI (b - a)) (nI (n - (b - a)), nI (rb_cur a b c), x, y)) :
    ∀ (m g : Nat) (x y : Nat → Int32), m ≤ n → rb_K a b m g → rb_Gap n g b ks x → rb_Gap n g b vs y →
      wY_removeAll_10 post lo hi (m + 1) (nI (b - g)) (nI m + (-1)) (nI (n - (b - g))) (nI (rb_cur g b c)) x y := by
  intro m
  induction m with
  | zero =>
    intro g x y hm hK hx hy
    obtain ⟨k1, k2, k3, k4⟩ := hK
    obtain rfl : g = a := by omega
    exact br_t (by decide) (H x y hx hy)
  | succ m ih =>
    intro g x y hm hK hx hy
    obtain ⟨k1, k2, k3, k4⟩ := hK
    have hR := R m (by omega)
    have exm : x m = ks m := by
      by_cases z : m < g
      · rw [hx m (by omega), if_pos z]
      · rw [hx m (by omega), if_neg z]
        exact congrArg ks (by omega)
    rw [pk_m1 m]
    refine br_f (nI_pos (by omega)) ⟨vp_in_nI (by omega) (by omega), ?_⟩
    rw [nI_clamp (n := m) (by omega)]
    by_cases z1 : x m < lo
    · have q : ¬ (a ≤ m ∧ m < b) := fun t => absurd z1 (Int32.not_lt.mpr (by rw [exm]; exact (hR.mpr t).1))
      exact br_t z1 (nm_e (ih g x y (by omega) ⟨k1, k2, by omega, by omega⟩ hx hy))
    · refine br_f z1 ⟨vp_in_nI (by omega) (by omega), ?_⟩
      by_cases z2 : hi < x m
      · have q : ¬ (a ≤ m ∧ m < b) := fun t => absurd z2 (Int32.not_lt.mpr (by rw [exm]; exact (hR.mpr t).2))
        exact br_t z2 (nm_e (ih g x y (by omega) ⟨k1, k2, by omega, by omega⟩ hx hy))
      · have q : a ≤ m ∧ m < b := hR.mp (by rw [← exm]; exact ⟨Int32.not_lt.mp z1, Int32.not_lt.mp z2⟩)
        obtain rfl : g = m + 1 := by omega
        refine br_f z2 ⟨vp_in_nI (by omega) (by omega), ?_⟩
        refine rb_yrem1 (p := m) (by omega) (rb_cur_le (by omega) hb hc) (rb_cutSelf (rb_gapSrt hS hx) (by omega)) (by omega) rfl ?_
        intro x' y' hx' hy'
        rw [rb_cur1 (by omega)]
        dsimp only
        refine nm_r (nI_1 _) (nm_e ?_)
        have e1 : n - (b - (m + 1)) - 1 = n - (b - m) := by omega
        have e2 : b - (m + 1) + 1 = b - m := by omega
        rw [e1, e2]
        exact ih m x' y' (by omega) ⟨q.1, by omega, by omega, by omega⟩ (rb_gap1 (by omega) hb rfl hx hx') (rb_gap1 (by omega) hb rfl hy hy')
theorem rb_ya {n a b c : Nat} (hn : n ≤ 48) (hab : a ≤ b) (hb : b ≤ n) (hc : c ≤ n) {post : Int32 → SY → Prop} {lo hi : Int32} {ks vs : Nat → Int32} (hS : rb_Srt n ks) (R : rb_Rg n a b lo hi ks)
    (H : ∀ x y, rb_Gap n a b ks x → rb_Gap n a b vs y → post (nI (b - a)) (nI (n - (b - a)), nI (rb_cur a b c), x, y)) : wpY_removeAll post (nI n, nI c, ks, vs) lo hi := by
  have h := rb_yaL hn hab hb hc post lo hi ks vs hS R H n b ks vs (Nat.le_refl n) ⟨hab, Nat.le_refl b, Or.inl rfl, Or.inr hb⟩ (rb_gap0 n b ks) (rb_gap0 n b vs)
  rw [Nat.sub_self, Nat.sub_zero, rb_cur_0] at h
  unfold wpY_removeAll
  dsimp only
  exact nm_r (Int32.sub_eq_add_neg _ _) ⟨n + 1, h⟩
end
section
/-! what is owed -/
/-- the two hold the same entries: below n the rows agree, and they are sorted by key; above n nothing is said -/
def i_Rel (k : Nat) (u : SX) (v : SY) : Prop := ∃ n c : Nat, ∃ xk xv yk yv : Nat → Int32, n ≤ 48 ∧ c ≤ n ∧ rb_Srt n xk ∧ rb_Agr n xk yk ∧ rb_Agr n xv yv ∧ u = (nI n, nI c, xk, xv) ∧ v = (nI n, nI c, yk, yv)
theorem rb_mk (k : Nat) {n c : Nat} {xk xv yk yv : Nat → Int32} (hn : n ≤ 48) (hc : c ≤ n) (hS : rb_Srt n xk) (hK : rb_Agr n xk yk) (hV : rb_Agr n xv yv) : i_Rel k (nI n, nI c, xk, xv) (nI n, nI c, yk, yv) := by
  unfold i_Rel
  exact ⟨n, c, xk, xv, yk, yv, hn, hc, hS, hK, hV, rfl, rfl⟩
theorem rb_updA {n p : Nat} {a b : Nat → Int32} (x : Int32) (h : rb_Agr n a b) : rb_Agr n (upd a p x) (upd b p x) := by
  intro j hj
  by_cases e : j = p
  · rw [e, pk_us, pk_us]
  · rw [pk_un e, pk_un e]
    exact h j hj
theorem i_up {k : Nat} {u : SX} {v : SY} (h : i_Rel k u v) : i_Rel (k + 3) u v := h
theorem i_vc0 : wpX_init (fun u => wpY_init (fun v => i_Rel 0 u v)) := by
  have h := rb_mk 0 (n := 0) (c := 0) (xk := fun _ => 0) (xv := fun _ => 0) (yk := fun _ => 0) (yv := fun _ => 0) (by omega) (by omega) (fun i j _ hj => absurd hj (Nat.not_lt_zero j)) (fun j hj => absurd hj (Nat.not_lt_zero j)) (fun j hj => absurd hj (Nat.not_lt_zero j))
  rw [nI_0] at h
  unfold wpX_init wpY_init
  exact h
theorem i_vc_put {k : Nat} {u : SX} {v : SY} (I : i_Rel k u v) (hk : k + 3 ≤ 1536) (v1 : Int32) (v2 : Int32) : wpX_put (fun r u' => wpY_put (fun r' v' => r' = r ∧ i_Rel (k + 3) u' v') v v1 v2) u v1 v2 := by
  obtain ⟨n, c, xk, xv, yk, yv, hn, hc, hS, hK, hV, rfl, rfl⟩ := I
  obtain ⟨p, C⟩ := rb_cutLt hS v1
  have C' := rb_cutLtA hK C
  have hpn := C.1
  by_cases h : p < n ∧ xk p = v1
  · have h' : yk p = v1 := by rw [hK p h.1]; exact h.2
    refine rb_xput1 hn C h.1 h.2 ?_
    refine rb_yput1 hn C' h.1 h' ?_
    exact ⟨rfl, rb_mk _ hn hc hS hK (rb_updA v2 hV)⟩
  · have h' : ¬ (p < n ∧ yk p = v1) := fun z => h ⟨z.1, by rw [← hK p z.1]; exact z.2⟩
    by_cases f : n < 48
    · refine rb_xput2 f hc C h ?_
      intro a b ha hb
      refine rb_yput2 f hc C' h' ?_
      intro a' b' ha' hb'
      refine ⟨rfl, rb_mk _ (by omega) ?_ (rb_insSrt hS C h ha) (rb_insA hpn hK ha ha') (rb_insA hpn hV hb hb')⟩
      split <;> omega
    · refine rb_xput3 (by omega) C h ?_
      refine rb_yput3 (by omega) C' h' ?_
      exact ⟨rfl, rb_mk _ hn hc hS hK hV⟩
theorem i_vc_remove {k : Nat} {u : SX} {v : SY} (I : i_Rel k u v) (hk : k + 3 ≤ 1536) (v1 : Int32) : wpX_remove (fun r u' => wpY_remove (fun r' v' => r' = r ∧ i_Rel (k + 3) u' v') v v1) u v1 := by
  obtain ⟨n, c, xk, xv, yk, yv, hn, hc, hS, hK, hV, rfl, rfl⟩ := I
  obtain ⟨p, C⟩ := rb_cutLt hS v1
  have C' := rb_cutLtA hK C
  have hpn := C.1
  by_cases h : p < n ∧ xk p = v1
  · have h' : yk p = v1 := by rw [hK p h.1]; exact h.2
    refine rb_xrem1 hn hc C h.1 h.2 ?_
    intro x y hx hy
    refine rb_yrem1 hn hc C' h.1 h' ?_
    intro x' y' hx' hy'
    have e : n - 1 = n - (p + 1 - p) := by omega
    rw [← rb_cur_s, e]
    exact ⟨rfl, rb_mk _ (by omega) (rb_cur_le (by omega) (by omega) hc) (rb_gapSrt hS hx) (rb_gapA hK hx hx') (rb_gapA hV hy hy')⟩
  · have h' : ¬ (p < n ∧ yk p = v1) := fun z => h ⟨z.1, by rw [← hK p z.1]; exact z.2⟩
    refine rb_xrem0 hn C h ?_
    refine rb_yrem0 hn C' h' ?_
    exact ⟨rfl, rb_mk _ hn hc hS hK hV⟩
theorem i_vc_get {k : Nat} {u : SX} {v : SY} (I : i_Rel k u v) (hk : k + 3 ≤ 1536) (v1 : Int32) : wpX_get (fun r => wpY_get (fun r' => r' = r ∧ i_Rel (k + 3) u v) v v1) u v1 := by
  obtain ⟨n, c, xk, xv, yk, yv, hn, hc, hS, hK, hV, rfl, rfl⟩ := I
  obtain ⟨p, C⟩ := rb_cutLt hS v1
  have C' := rb_cutLtA hK C
  by_cases h : p < n ∧ xk p = v1
  · have h' : yk p = v1 := by rw [hK p h.1]; exact h.2
    refine rb_xget1 hn C h.1 h.2 ?_
    refine rb_yget1 hn C' h.1 h' ?_
    exact ⟨hV p h.1, rb_mk _ hn hc hS hK hV⟩
  · have h' : ¬ (p < n ∧ yk p = v1) := fun z => h ⟨z.1, by rw [← hK p z.1]; exact z.2⟩
    refine rb_xget0 hn C h ?_
    refine rb_yget0 hn C' h' ?_
    exact ⟨rfl, rb_mk _ hn hc hS hK hV⟩
theorem i_vc_place {k : Nat} {u : SX} {v : SY} (I : i_Rel k u v) (hk : k + 3 ≤ 1536) (v1 : Int32) : wpX_place (fun r => wpY_place (fun r' => r' = r ∧ i_Rel (k + 3) u v) v v1) u v1 := by
  obtain ⟨n, c, xk, xv, yk, yv, hn, hc, hS, hK, hV, rfl, rfl⟩ := I
  obtain ⟨p, C⟩ := rb_cutLt hS v1
  have C' := rb_cutLtA hK C
  by_cases h : p < n ∧ xk p = v1
  · have h' : yk p = v1 := by rw [hK p h.1]; exact h.2
    refine rb_xplace1 hn C h.1 h.2 ?_
    refine rb_yplace1 hn C' h.1 h' ?_
    exact ⟨rfl, rb_mk _ hn hc hS hK hV⟩
  · have h' : ¬ (p < n ∧ yk p = v1) := fun z => h ⟨z.1, by rw [← hK p z.1]; exact z.2⟩
    refine rb_xplace0 hn C h ?_
    refine rb_yplace0 hn C' h' ?_
    exact ⟨rfl, rb_mk _ hn hc hS hK hV⟩
theorem rb_rg1 {n a b : Nat} {lo hi : Int32} {ks : Nat → Int32} (A : rb_Cut n (fun i => ks i < lo) a) (B : rb_Cut n (fun i => ks i ≤ hi) b) : rb_Rg n a b lo hi ks := by
  intro i hin
  have h1 : ks i < lo ↔ i < a := A.2 i hin
  have h2 : ks i ≤ hi ↔ i < b := B.2 i hin
  rw [h2, ← Int32.not_lt, h1, Nat.not_lt]
theorem rb_rgA {n a b : Nat} {lo hi : Int32} {x y : Nat → Int32} (e : rb_Agr n x y) (h : rb_Rg n a b lo hi x) : rb_Rg n a b lo hi y := by
  intro i hin
  rw [e i hin]
  exact h i hin
theorem rb_cutLe2 {n a b : Nat} {lo hi : Int32} {ks : Nat → Int32} (h : lo ≤ hi) (A : rb_Cut n (fun i => ks i < lo) a) (B : rb_Cut n (fun i => ks i ≤ hi) b) : a ≤ b := by
  by_cases z : a ≤ b
  · exact z
  · have hb : b < n := by have := A.1; omega
    have h1 : ks b < lo := (A.2 b hb).mpr (by omega)
    have h2 : ks b ≤ hi := Int32.le_of_lt (Int32.lt_of_lt_of_le h1 h)
    exact absurd ((B.2 b hb).mp h2) (Nat.lt_irrefl b)
theorem rb_rg0 {n : Nat} {lo hi : Int32} {ks : Nat → Int32} (h : ¬ lo ≤ hi) : rb_Rg n 0 0 lo hi ks := by
  intro i hin
  exact ⟨fun t => absurd (Int32.le_trans t.1 t.2) h, fun t => absurd t.2 (Nat.not_lt_zero i)⟩
theorem i_vc_count {k : Nat} {u : SX} {v : SY} (I : i_Rel k u v) (hk : k + 3 ≤ 1536) (v1 : Int32) (v2 : Int32) : wpX_count (fun r => wpY_count (fun r' => r' = r ∧ i_Rel (k + 3) u v) v v1 v2) u v1 v2 := by
  obtain ⟨n, c, xk, xv, yk, yv, hn, hc, hS, hK, hV, rfl, rfl⟩ := I
  obtain ⟨a, A⟩ := rb_cutLt hS v1
  obtain ⟨b, B⟩ := rb_cutLe hS v2
  unfold wpX_count
  dsimp only
  by_cases z : v1 ≤ v2
  · have hab := rb_cutLe2 z A B
    refine br_t z ?_
    refine rb_xb hn A ?_
    refine rb_xu hn B ?_
    rw [pk_sub hab]
    refine rb_yc hn hab B.1 (rb_rgA hK (rb_rg1 A B)) ?_
    exact ⟨rfl, rb_mk _ hn hc hS hK hV⟩
  · refine br_f z ?_
    refine rb_yc (a := 0) (b := 0) hn (by omega) (by omega) (rb_rg0 z) ?_
    exact ⟨rfl, rb_mk _ hn hc hS hK hV⟩
theorem i_vc_sum {k : Nat} {u : SX} {v : SY} (I : i_Rel k u v) (hk : k + 3 ≤ 1536) (v1 : Int32) (v2 : Int32) : wpX_sum (fun r => wpY_sum (fun r' => r' = r ∧ i_Rel (k + 3) u v) v v1 v2) u v1 v2 := by
  obtain ⟨n, c, xk, xv, yk, yv, hn, hc, hS, hK, hV, rfl, rfl⟩ := I
  refine rb_xs hn ?_
  refine rb_ys hn ?_
  exact ⟨rb_sumA n hK hV, rb_mk _ hn hc hS hK hV⟩
theorem i_vc_removeAll {k : Nat} {u : SX} {v : SY} (I : i_Rel k u v) (hk : k + 3 ≤ 1536) (v1 : Int32) (v2 : Int32) : wpX_removeAll (fun r u' => wpY_removeAll (fun r' v' => r' = r ∧ i_Rel (k + 3) u' v') v v1 v2) u v1 v2 := by
  obtain ⟨n, c, xk, xv, yk, yv, hn, hc, hS, hK, hV, rfl, rfl⟩ := I
  obtain ⟨a, A⟩ := rb_cutLt hS v1
  obtain ⟨b, B⟩ := rb_cutLe hS v2
  have hS' := rb_srtA hS hK
  unfold wpX_removeAll
  dsimp only
  by_cases z : v1 ≤ v2
  · have hab := rb_cutLe2 z A B
    have hbn := B.1
    refine br_t z ?_
    refine rb_xb hn A ?_
    refine rb_xu hn B ?_
    refine rb_xc hn hab hbn hc ?_
    intro x y hx hy
    dsimp only
    rw [pk_sub hab]
    refine rb_ya hn hab hbn hc hS' (rb_rgA hK (rb_rg1 A B)) ?_
    intro x' y' hx' hy'
    exact ⟨rfl, rb_mk _ (by omega) (rb_cur_le hab hbn hc) (rb_gapSrt hS hx) (rb_gapA hK hx hx') (rb_gapA hV hy hy')⟩
  · refine br_f z ?_
    refine rb_ya (a := 0) (b := 0) hn (by omega) (by omega) hc hS' (rb_rg0 z) ?_
    intro x' y' hx' hy'
    rw [rb_cur_0]
    exact ⟨rfl, rb_mk _ hn hc hS (rb_gapA hK (rb_gap0 n 0 xk) hx') (rb_gapA hV (rb_gap0 n 0 xv) hy')⟩
theorem i_vc_seek {k : Nat} {u : SX} {v : SY} (I : i_Rel k u v) (hk : k + 3 ≤ 1536) (v1 : Int32) : wpX_seek (fun r u' => wpY_seek (fun r' v' => r' = r ∧ i_Rel (k + 3) u' v') v v1) u v1 := by
  obtain ⟨n, c, xk, xv, yk, yv, hn, hc, hS, hK, hV, rfl, rfl⟩ := I
  obtain ⟨p, C⟩ := rb_cutLt hS v1
  refine rb_xseek hn C ?_
  refine rb_yseek hn (rb_cutLtA hK C) ?_
  exact ⟨rfl, rb_mk _ hn C.1 hS hK hV⟩
theorem i_vc_jump {k : Nat} {u : SX} {v : SY} (I : i_Rel k u v) (hk : k + 3 ≤ 1536) (v1 : Int32) : wpX_jump (fun r u' => wpY_jump (fun r' v' => r' = r ∧ i_Rel (k + 3) u' v') v v1) u v1 := by
  obtain ⟨n, c, xk, xv, yk, yv, hn, hc, hS, hK, hV, rfl, rfl⟩ := I
  have hE : i_Rel (k + 3) (nI n, nI n, xk, xv) (nI n, nI n, yk, yv) := rb_mk _ hn (Nat.le_refl n) hS hK hV
  unfold wpX_jump wpY_jump
  dsimp only
  rcases pk_ix v1 (n := n) (by omega) with h | h | ⟨j, hj, rfl⟩
  · exact br_t h (br_t h (br_t rfl (br_t rfl ⟨rfl, hE⟩)))
  · have h0 : ¬ v1 < 0 := fun t => nI_pos (n := n) (by omega) (Int32.lt_of_le_of_lt h t)
    exact br_f h0 (br_f (Int32.not_lt.mpr h) (br_f h0 (br_t h (br_t rfl (br_t rfl ⟨rfl, hE⟩)))))
  · have h0 : ¬ nI j < 0 := nI_pos (by omega)
    exact br_f h0 (br_t (nI_lt hj (by omega)) (br_f h0 (br_f (nI_ge hj (by omega)) (br_f (by decide) (br_f (by decide) ⟨rfl, rb_mk _ hn (by omega) hS hK hV⟩)))))
theorem i_vc_next {k : Nat} {u : SX} {v : SY} (I : i_Rel k u v) (hk : k + 3 ≤ 1536) : wpX_next (fun r u' => wpY_next (fun r' v' => r' = r ∧ i_Rel (k + 3) u' v') v) u := by
  obtain ⟨n, c, xk, xv, yk, yv, hn, hc, hS, hK, hV, rfl, rfl⟩ := I
  unfold wpX_next wpY_next
  dsimp only
  by_cases z : c < n
  · have q : ¬ nI c = nI n := fun t => absurd ((nI_eq (by omega) (by omega)).mp t) (by omega)
    have hE : i_Rel (k + 3) (nI n, nI (c + 1), xk, xv) (nI n, nI (c + 1), yk, yv) := rb_mk _ hn (by omega) hS hK hV
    refine br_t (nI_lt z (by omega)) (nm_r (nI_1 c) ?_)
    by_cases w : n ≤ c + 1
    · have hw : nI n ≤ nI (c + 1) := nI_le w (by omega)
      exact br_t hw (br_f q (nm_r (nI_1 c) (br_t hw ⟨rfl, hE⟩)))
    · have hw : ¬ nI n ≤ nI (c + 1) := nI_ge (by omega) (by omega)
      exact br_f hw (br_f q (nm_r (nI_1 c) (br_f hw ⟨rfl, hE⟩)))
  · obtain rfl : c = n := by omega
    exact br_f (nI_nlt (Nat.le_refl c) (by omega)) (br_t rfl ⟨rfl, rb_mk _ hn hc hS hK hV⟩)
theorem i_vc_back {k : Nat} {u : SX} {v : SY} (I : i_Rel k u v) (hk : k + 3 ≤ 1536) : wpX_back (fun r u' => wpY_back (fun r' v' => r' = r ∧ i_Rel (k + 3) u' v') v) u := by
  obtain ⟨n, c, xk, xv, yk, yv, hn, hc, hS, hK, hV, rfl, rfl⟩ := I
  unfold wpX_back wpY_back
  dsimp only
  by_cases z : 0 < c
  · have h0 : (0 : Int32) < nI c := by rw [← nI_0]; exact nI_lt z (by omega)
    exact br_t h0 (nm_r (rb_p1 z) (br_f (nI_ne0 z (by omega)) (nm_r (rb_p1 z) ⟨rfl, rb_mk _ hn (by omega) hS hK hV⟩)))
  · obtain rfl : c = 0 := by omega
    have h0 : ¬ (0 : Int32) < nI 0 := by decide
    exact br_f h0 (br_t nI_0 ⟨rfl, rb_mk _ hn hc hS hK hV⟩)
theorem i_vc_key {k : Nat} {u : SX} {v : SY} (I : i_Rel k u v) (hk : k + 3 ≤ 1536) : wpX_key (fun r => wpY_key (fun r' => r' = r ∧ i_Rel (k + 3) u v) v) u := by
  obtain ⟨n, c, xk, xv, yk, yv, hn, hc, hS, hK, hV, rfl, rfl⟩ := I
  have hE : i_Rel (k + 3) (nI n, nI c, xk, xv) (nI n, nI c, yk, yv) := rb_mk _ hn hc hS hK hV
  unfold wpX_key wpY_key
  dsimp only
  rw [nI_clamp (n := c) (by omega)]
  by_cases z : c < n
  · have hz : ¬ nI n ≤ nI c := nI_ge z (by omega)
    have hi : vp_in (nI c) 48 := vp_in_nI (by omega) (by omega)
    exact br_f hz ⟨hi, br_f hz ⟨hi, hK c z, hE⟩⟩
  · have hz : nI n ≤ nI c := nI_le (by omega) (by omega)
    exact br_t hz (br_t hz ⟨rfl, hE⟩)
theorem i_vc_set {k : Nat} {u : SX} {v : SY} (I : i_Rel k u v) (hk : k + 3 ≤ 1536) (v1 : Int32) : wpX_set (fun r u' => wpY_set (fun r' v' => r' = r ∧ i_Rel (k + 3) u' v') v v1) u v1 := by
  obtain ⟨n, c, xk, xv, yk, yv, hn, hc, hS, hK, hV, rfl, rfl⟩ := I
  unfold wpX_set wpY_set
  dsimp only
  rw [nI_clamp (n := c) (by omega)]
  by_cases z : c < n
  · have q : ¬ nI c = nI n := fun t => absurd ((nI_eq (by omega) (by omega)).mp t) (by omega)
    have hi : vp_in (nI c) 48 := vp_in_nI (by omega) (by omega)
    exact br_t (nI_lt z (by omega)) ⟨hi, nm_e ⟨hi, nm_e (br_f q ⟨hi, nm_e ⟨hi, nm_e ⟨hV c z, rb_mk _ hn hc hS hK (rb_updA v1 hV)⟩⟩⟩)⟩⟩
  · obtain rfl : c = n := by omega
    exact br_f (nI_nlt (Nat.le_refl c) (by omega)) (br_t rfl ⟨rfl, rb_mk _ hn hc hS hK hV⟩)
end
