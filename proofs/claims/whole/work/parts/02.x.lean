/-! the component's own methods, each against the pure picture, with a general post -/
theorem rb_p1 {c : Nat} (h : 0 < c) : nI c - 1 = nI (c - 1) := by
  obtain ⟨d, rfl⟩ : ∃ d, c = d + 1 := ⟨c - 1, by omega⟩
  exact nI_pred d
theorem rb_xbL {n p : Nat} (hn : n ≤ 48) (post : Int32 → Prop) (key fc : Int32) (ks vs : Nat → Int32) (C : rb_Cut n (fun i => ks i < key) p) (hp : post (nI p)) :
    ∀ d i : Nat, i + d = n → wX_countBelow_4 post key (nI n) fc ks vs (d + 1) (nI (i - (i - p))) (nI i) := by
  have hpn := C.1
  intro d
  induction d with
  | zero =>
    intro i hi
    have e : i - (i - p) = p := by omega
    rw [e]
    exact br_t (nI_le (by omega) (by omega)) hp
  | succ d ih =>
    intro i hi
    refine br_f (nI_ge (by omega) (by omega)) ⟨vp_in_nI (by omega) (by omega), ?_⟩
    rw [nI_clamp (n := i) (by omega)]
    by_cases z : ks i < key
    · have hip : i < p := (C.2 i (by omega)).mp z
      refine br_f (Int32.not_le.mpr z) (nm_r (nI_1 _) (nm_r (nI_1 _) ?_))
      have e : i - (i - p) + 1 = i + 1 - (i + 1 - p) := by omega
      rw [e]
      exact ih (i + 1) (by omega)
    · have hip : ¬ i < p := fun t => z ((C.2 i (by omega)).mpr t)
      refine br_t (Int32.not_lt.mp z) (nm_r (nI_1 _) ?_)
      have e : i - (i - p) = i + 1 - (i + 1 - p) := by omega
      rw [e]
      exact ih (i + 1) (by omega)
theorem rb_xb {n p : Nat} (hn : n ≤ 48) {post : Int32 → Prop} {key fc : Int32} {ks vs : Nat → Int32} (C : rb_Cut n (fun i => ks i < key) p) (hp : post (nI p)) : wpX_countBelow post (nI n, fc, ks, vs) key := by
  have h := rb_xbL hn post key fc ks vs C hp n 0 (by omega)
  rw [Nat.zero_sub] at h
  exact ⟨n + 1, h⟩
theorem rb_xuL {n p : Nat} (hn : n ≤ 48) (post : Int32 → Prop) (key fc : Int32) (ks vs : Nat → Int32) (C : rb_Cut n (fun i => ks i ≤ key) p) (hp : post (nI p)) :
    ∀ d i : Nat, i + d = n → wX_countUpTo_4 post key (nI n) fc ks vs (d + 1) (nI (i - (i - p))) (nI i) := by
  have hpn := C.1
  intro d
  induction d with
  | zero =>
    intro i hi
    have e : i - (i - p) = p := by omega
    rw [e]
    exact br_t (nI_le (by omega) (by omega)) hp
  | succ d ih =>
    intro i hi
    refine br_f (nI_ge (by omega) (by omega)) ⟨vp_in_nI (by omega) (by omega), ?_⟩
    rw [nI_clamp (n := i) (by omega)]
    by_cases z : ks i ≤ key
    · have hip : i < p := (C.2 i (by omega)).mp z
      refine br_f (Int32.not_lt.mpr z) (nm_r (nI_1 _) (nm_r (nI_1 _) ?_))
      have e : i - (i - p) + 1 = i + 1 - (i + 1 - p) := by omega
      rw [e]
      exact ih (i + 1) (by omega)
    · have hip : ¬ i < p := fun t => z ((C.2 i (by omega)).mpr t)
      refine br_t (Int32.not_le.mp z) (nm_r (nI_1 _) ?_)
      have e : i - (i - p) = i + 1 - (i + 1 - p) := by omega
      rw [e]
      exact ih (i + 1) (by omega)
theorem rb_xu {n p : Nat} (hn : n ≤ 48) {post : Int32 → Prop} {key fc : Int32} {ks vs : Nat → Int32} (C : rb_Cut n (fun i => ks i ≤ key) p) (hp : post (nI p)) : wpX_countUpTo post (nI n, fc, ks, vs) key := by
  have h := rb_xuL hn post key fc ks vs C hp n 0 (by omega)
  rw [Nat.zero_sub] at h
  exact ⟨n + 1, h⟩
theorem rb_xh1 {n p : Nat} (hn : n ≤ 48) {post : Int32 → Prop} {key fc : Int32} {ks vs : Nat → Int32} (h : p < n) (e : ks p = key) (hp : post 1) : wpX_holdsAt post (nI n, fc, ks, vs) (nI p) key :=
  br_f (nI_ge h (by omega)) ⟨vp_in_nI (by omega) (by omega), br_t (by rw [nI_clamp (n := p) (by omega)]; exact e) hp⟩
theorem rb_xh0 {n p : Nat} (hn : n ≤ 48) {post : Int32 → Prop} {key fc : Int32} {ks vs : Nat → Int32} (hpn : p ≤ n) (h : ¬ (p < n ∧ ks p = key)) (hp : post 0) : wpX_holdsAt post (nI n, fc, ks, vs) (nI p) key := by
  by_cases z : p < n
  · exact br_f (nI_ge z (by omega)) ⟨vp_in_nI (by omega) (by omega), br_f (by rw [nI_clamp (n := p) (by omega)]; exact fun t => h ⟨z, t⟩) hp⟩
  · exact br_t (nI_le (by omega) (by omega)) hp
def rb_Sh (n i : Nat) (ks a : Nat → Int32) : Prop := ∀ j, a j = if i < j ∧ j ≤ n then ks (j - 1) else ks j
theorem rb_sh0 (n : Nat) (ks : Nat → Int32) : rb_Sh n n ks ks := by
  intro j
  rw [if_neg (by omega)]
theorem rb_shS {n i : Nat} {ks a : Nat → Int32} (hi : i + 1 ≤ n) (h : rb_Sh n (i + 1) ks a) : rb_Sh n i ks (upd a (i + 1) (a i)) := by
  intro j
  by_cases e : j = i + 1
  · rw [e, pk_us, h i, if_neg (by omega), if_pos ⟨Nat.lt_succ_self i, hi⟩]
    rfl
  · rw [pk_un e, h j]
    by_cases z : i < j ∧ j ≤ n
    · rw [if_pos z, if_pos (by omega)]
    · rw [if_neg z, if_neg (by omega)]
theorem rb_shI {n p : Nat} {ks a : Nat → Int32} {x : Int32} (h : rb_Sh n p ks a) : rb_Ins n p x ks (upd a p x) := by
  intro j hj
  by_cases e : j = p
  · rw [if_neg (by omega), if_pos e, e, pk_us]
  · rw [pk_un e, h j]
    by_cases z : j < p
    · rw [if_pos z, if_neg (by omega)]
    · rw [if_neg z, if_neg e, if_pos (by omega)]
theorem rb_xoL {n p c : Nat} (hn : n < 48) (hc : c ≤ n) (post : SX → Prop) (ks vs : Nat → Int32)
    (H : ∀ a b, rb_Sh n p ks a → rb_Sh n p vs b → post (nI (n + 1), nI (if p ≤ c then c + 1 else c), a, b)) :
    ∀ (d i : Nat) (a b : Nat → Int32), p + d = i → i ≤ n → rb_Sh n i ks a → rb_Sh n i vs b → wX_openGap_5 post (nI p) (nI n) (nI c) (d + 1) (nI i) a b := by
  intro d
  induction d with
  | zero =>
    intro i a b hi hin ha hb
    obtain rfl : p = i := by omega
    have h := H a b ha hb
    refine br_t (nI_le (by omega) (by omega)) (nm_r (nI_1 n) ?_)
    by_cases z : p ≤ c
    · rw [if_pos z] at h
      exact br_f (nI_nlt z (by omega)) (nm_r (nI_1 c) h)
    · rw [if_neg z] at h
      exact br_t (nI_lt (by omega) (by omega)) h
  | succ d ih =>
    intro i a b hi hin ha hb
    obtain ⟨m, rfl⟩ : ∃ m, i = m + 1 := ⟨i - 1, by omega⟩
    refine br_f (nI_ge (by omega) (by omega)) ?_
    rw [nI_pred m, nI_clamp (n := m) (by omega), nI_clamp (n := m + 1) (by omega)]
    refine ⟨vp_in_nI (by omega) (by omega), vp_in_nI (by omega) (by omega), nm_e ⟨vp_in_nI (by omega) (by omega), vp_in_nI (by omega) (by omega), nm_e (nm_r (pk_m1 m) ?_)⟩⟩
    exact ih m _ _ (by omega) (by omega) (rb_shS hin ha) (rb_shS hin hb)
theorem rb_xo {n p c : Nat} (hn : n < 48) (hc : c ≤ n) (hp : p ≤ n) {post : SX → Prop} {ks vs : Nat → Int32}
    (H : ∀ a b, rb_Sh n p ks a → rb_Sh n p vs b → post (nI (n + 1), nI (if p ≤ c then c + 1 else c), a, b)) : wpX_openGap post (nI n, nI c, ks, vs) (nI p) :=
  ⟨n - p + 1, rb_xoL hn hc post ks vs H (n - p) n ks vs (by omega) (by omega) (rb_sh0 n ks) (rb_sh0 n vs)⟩
def rb_Cl (a w i : Nat) (ks x : Nat → Int32) : Prop := ∀ j, x j = if a ≤ j ∧ j + w < i then ks (j + w) else ks j
theorem rb_cl0 {a w i : Nat} (hi : i ≤ a + w) (ks : Nat → Int32) : rb_Cl a w i ks ks := by
  intro j
  rw [if_neg (by omega)]
theorem rb_clS {a w i k : Nat} {ks x : Nat → Int32} (hi : a + w ≤ i) (hk : k = i - w) (h : rb_Cl a w i ks x) : rb_Cl a w (i + 1) ks (upd x k (x i)) := by
  intro j
  by_cases e : j = k
  · rw [e, pk_us, h i, if_neg (by omega), if_pos (by omega)]
    exact congrArg ks (by omega)
  · rw [pk_un e, h j]
    by_cases z : a ≤ j ∧ j + w < i
    · rw [if_pos z, if_pos (by omega)]
    · rw [if_neg z, if_neg (by omega)]
theorem rb_clG {n a b w : Nat} {ks x : Nat → Int32} (hw : w = b - a) (h : rb_Cl a w n ks x) : rb_Gap n a b ks x := by
  intro j hj
  subst hw
  rw [h j]
  by_cases z : j < a
  · rw [if_pos z, if_neg (by omega)]
  · rw [if_neg z, if_pos (by omega)]
theorem rb_xcL {n a b c : Nat} (hn : n ≤ 48) (hab : a ≤ b) (hb : b ≤ n) (hc : c ≤ n) (post : SX → Prop) (ks vs : Nat → Int32)
    (H : ∀ x y, rb_Gap n a b ks x → rb_Gap n a b vs y → post (nI (n - (b - a)), nI (rb_cur a b c), x, y)) :
    ∀ (d i : Nat) (x y : Nat → Int32), i + d = n → b ≤ i → rb_Cl a (b - a) i ks x → rb_Cl a (b - a) i vs y → wX_closeGap_7 post (nI a) (nI b) (nI (b - a)) (nI n) (nI c) (d + 1) (nI i) x y := by
  intro d
  induction d with
  | zero =>
    intro i x y hi hbi hx hy
    obtain rfl : i = n := by omega
    have h := H x y (rb_clG rfl hx) (rb_clG rfl hy)
    refine br_t (nI_le (by omega) (by omega)) (nm_r (pk_sub (by omega)) ?_)
    by_cases h1 : b ≤ c
    · rw [rb_cur_t h1] at h
      exact br_f (nI_nlt h1 (by omega)) (nm_r (pk_sub (by omega)) h)
    · by_cases h2 : a < c
      · rw [rb_cur_m h1 h2] at h
        exact br_t (nI_lt (by omega) (by omega)) (br_f (nI_ge h2 (by omega)) h)
      · rw [rb_cur_f h1 h2] at h
        exact br_t (nI_lt (by omega) (by omega)) (br_t (nI_le (by omega) (by omega)) h)
  | succ d ih =>
    intro i x y hi hbi hx hy
    refine br_f (nI_ge (by omega) (by omega)) ?_
    rw [pk_sub (a := i) (b := b - a) (by omega), nI_clamp (n := i) (by omega), nI_clamp (n := i - (b - a)) (by omega)]
    refine ⟨vp_in_nI (by omega) (by omega), vp_in_nI (by omega) (by omega), nm_e ⟨vp_in_nI (by omega) (by omega), vp_in_nI (by omega) (by omega), nm_e (nm_r (nI_1 i) ?_)⟩⟩
    exact ih (i + 1) _ _ (by omega) (by omega) (rb_clS (by omega) rfl hx) (rb_clS (by omega) rfl hy)
theorem rb_xc {n a b c : Nat} (hn : n ≤ 48) (hab : a ≤ b) (hb : b ≤ n) (hc : c ≤ n) {post : SX → Prop} {ks vs : Nat → Int32}
    (H : ∀ x y, rb_Gap n a b ks x → rb_Gap n a b vs y → post (nI (n - (b - a)), nI (rb_cur a b c), x, y)) : wpX_closeGap post (nI n, nI c, ks, vs) (nI a) (nI b) :=
  nm_r (pk_sub hab) ⟨n - b + 1, rb_xcL hn hab hb hc post ks vs H (n - b) b ks vs (by omega) (by omega) (rb_cl0 (by omega) ks) (rb_cl0 (by omega) vs)⟩
theorem rb_xsL {n : Nat} (hn : n ≤ 48) (post : Int64 → Prop) (lo hi fc : Int32) (ks vs : Nat → Int32) (H : post (rb_sum ks vs lo hi n)) :
    ∀ d i : Nat, i + d = n → wX_sum_5 post lo hi (nI n) fc ks vs (d + 1) (rb_sum ks vs lo hi i) (nI i) := by
  intro d
  induction d with
  | zero =>
    intro i hin
    obtain rfl : i = n := by omega
    exact br_t (nI_le (by omega) (by omega)) H
  | succ d ih =>
    intro i hin
    have hS := ih (i + 1) (by omega)
    refine br_f (nI_ge (by omega) (by omega)) ⟨vp_in_nI (by omega) (by omega), ?_⟩
    rw [nI_clamp (n := i) (by omega)]
    by_cases z1 : ks i < lo
    · have e : rb_sum ks vs lo hi (i + 1) = rb_sum ks vs lo hi i := if_neg (fun t => absurd z1 (Int32.not_lt.mpr t.1))
      rw [e] at hS
      exact br_t z1 (nm_r (nI_1 i) hS)
    · refine br_f z1 ⟨vp_in_nI (by omega) (by omega), ?_⟩
      by_cases z2 : hi < ks i
      · have e : rb_sum ks vs lo hi (i + 1) = rb_sum ks vs lo hi i := if_neg (fun t => absurd z2 (Int32.not_lt.mpr t.2))
        rw [e] at hS
        exact br_t z2 (nm_r (nI_1 i) hS)
      · have e : rb_sum ks vs lo hi (i + 1) = rb_sum ks vs lo hi i + (vs i).toInt64 := if_pos ⟨Int32.not_lt.mp z1, Int32.not_lt.mp z2⟩
        exact br_f z2 ⟨vp_in_nI (by omega) (by omega), nm_r e.symm (nm_r (nI_1 i) hS)⟩
theorem rb_xs {n : Nat} (hn : n ≤ 48) {post : Int64 → Prop} {lo hi fc : Int32} {ks vs : Nat → Int32} (H : post (rb_sum ks vs lo hi n)) : wpX_sum post (nI n, fc, ks, vs) lo hi :=
  ⟨n + 1, rb_xsL hn post lo hi fc ks vs H n 0 (by omega)⟩
theorem rb_xput1 {n p : Nat} (hn : n ≤ 48) {post : Int32 → SX → Prop} {key val fc : Int32} {ks vs : Nat → Int32} (C : rb_Cut n (fun i => ks i < key) p) (h : p < n) (e : ks p = key)
    (H : post 0 (nI n, fc, ks, upd vs p val)) : wpX_put post (nI n, fc, ks, vs) key val := by
  unfold wpX_put
  dsimp only
  refine rb_xb hn C ?_
  refine rb_xh1 hn h e ?_
  rw [nI_clamp (n := p) (by omega)]
  exact br_f (by decide) ⟨vp_in_nI (by omega) (by omega), nm_e H⟩
theorem rb_xput2 {n p c : Nat} (hn : n < 48) (hc : c ≤ n) {post : Int32 → SX → Prop} {key val : Int32} {ks vs : Nat → Int32} (C : rb_Cut n (fun i => ks i < key) p) (h : ¬ (p < n ∧ ks p = key))
    (H : ∀ a b, rb_Ins n p key ks a → rb_Ins n p val vs b → post 1 (nI (n + 1), nI (if p ≤ c then c + 1 else c), a, b)) : wpX_put post (nI n, nI c, ks, vs) key val := by
  have hpn := C.1
  unfold wpX_put
  dsimp only
  refine rb_xb (by omega) C ?_
  refine rb_xh0 (by omega) hpn h ?_
  refine br_t rfl (br_t (nI_lt (b := 48) hn (by decide)) ?_)
  refine rb_xo hn hc hpn ?_
  intro a b ha hb
  dsimp only
  rw [nI_clamp (n := p) (by omega)]
  exact ⟨vp_in_nI (by omega) (by omega), nm_e ⟨vp_in_nI (by omega) (by omega), nm_e (H _ _ (rb_shI ha) (rb_shI hb))⟩⟩
theorem rb_xput3 {n p : Nat} (hn : n = 48) {post : Int32 → SX → Prop} {key val fc : Int32} {ks vs : Nat → Int32} (C : rb_Cut n (fun i => ks i < key) p) (h : ¬ (p < n ∧ ks p = key))
    (H : post (-1) (nI n, fc, ks, vs)) : wpX_put post (nI n, fc, ks, vs) key val := by
  have hpn := C.1
  unfold wpX_put
  dsimp only
  refine rb_xb (by omega) C ?_
  refine rb_xh0 (by omega) hpn h ?_
  exact br_t rfl (br_f (nI_nlt (b := 48) (by omega) (by omega)) H)
theorem rb_xrem1 {n p c : Nat} (hn : n ≤ 48) (hc : c ≤ n) {post : Int32 → SX → Prop} {key : Int32} {ks vs : Nat → Int32} (C : rb_Cut n (fun i => ks i < key) p) (h : p < n) (e : ks p = key)
    (H : ∀ x y, rb_Gap n p (p + 1) ks x → rb_Gap n p (p + 1) vs y → post 1 (nI (n - (p + 1 - p)), nI (rb_cur p (p + 1) c), x, y)) : wpX_remove post (nI n, nI c, ks, vs) key := by
  unfold wpX_remove
  dsimp only
  refine rb_xb hn C ?_
  refine rb_xh1 hn h e ?_
  refine br_f (by decide) ?_
  rw [nI_1 p]
  refine rb_xc hn (by omega) (by omega) hc ?_
  intro x y hx hy
  exact H x y hx hy
theorem rb_xrem0 {n p : Nat} (hn : n ≤ 48) {post : Int32 → SX → Prop} {key fc : Int32} {ks vs : Nat → Int32} (C : rb_Cut n (fun i => ks i < key) p) (h : ¬ (p < n ∧ ks p = key))
    (H : post 0 (nI n, fc, ks, vs)) : wpX_remove post (nI n, fc, ks, vs) key := by
  unfold wpX_remove
  dsimp only
  refine rb_xb hn C ?_
  refine rb_xh0 hn C.1 h ?_
  exact br_t rfl H
theorem rb_xget1 {n p : Nat} (hn : n ≤ 48) {post : Int32 → Prop} {key fc : Int32} {ks vs : Nat → Int32} (C : rb_Cut n (fun i => ks i < key) p) (h : p < n) (e : ks p = key)
    (H : post (vs p)) : wpX_get post (nI n, fc, ks, vs) key := by
  unfold wpX_get
  dsimp only
  refine rb_xb hn C ?_
  refine rb_xh1 hn h e ?_
  rw [nI_clamp (n := p) (by omega)]
  exact br_f (by decide) ⟨vp_in_nI (by omega) (by omega), H⟩
theorem rb_xget0 {n p : Nat} (hn : n ≤ 48) {post : Int32 → Prop} {key fc : Int32} {ks vs : Nat → Int32} (C : rb_Cut n (fun i => ks i < key) p) (h : ¬ (p < n ∧ ks p = key))
    (H : post 0) : wpX_get post (nI n, fc, ks, vs) key := by
  unfold wpX_get
  dsimp only
  refine rb_xb hn C ?_
  refine rb_xh0 hn C.1 h ?_
  exact br_t rfl H
theorem rb_xplace1 {n p : Nat} (hn : n ≤ 48) {post : Int32 → Prop} {key fc : Int32} {ks vs : Nat → Int32} (C : rb_Cut n (fun i => ks i < key) p) (h : p < n) (e : ks p = key)
    (H : post (nI p)) : wpX_place post (nI n, fc, ks, vs) key := by
  unfold wpX_place
  dsimp only
  refine rb_xb hn C ?_
  refine rb_xh1 hn h e ?_
  exact br_f (by decide) H
theorem rb_xplace0 {n p : Nat} (hn : n ≤ 48) {post : Int32 → Prop} {key fc : Int32} {ks vs : Nat → Int32} (C : rb_Cut n (fun i => ks i < key) p) (h : ¬ (p < n ∧ ks p = key))
    (H : post (-1)) : wpX_place post (nI n, fc, ks, vs) key := by
  unfold wpX_place
  dsimp only
  refine rb_xb hn C ?_
  refine rb_xh0 hn C.1 h ?_
  exact br_t rfl H
theorem rb_xseek {n p : Nat} (hn : n ≤ 48) {post : Int32 → SX → Prop} {key fc : Int32} {ks vs : Nat → Int32} (C : rb_Cut n (fun i => ks i < key) p)
    (H : post (nI p) (nI n, nI p, ks, vs)) : wpX_seek post (nI n, fc, ks, vs) key := by
  unfold wpX_seek
  dsimp only
  refine rb_xb hn C ?_
  exact H
