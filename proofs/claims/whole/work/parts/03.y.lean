/-! the reference's own methods, each against the pure picture, with a general post -/
theorem rb_ybL {n p : Nat} (hn : n ≤ 48) (post : Int32 → Prop) (key fc : Int32) (ks vs : Nat → Int32) (C : rb_Cut n (fun i => ks i < key) p) (hp : post (nI p)) :
    ∀ d i : Nat, i + d = p → wY_below_2 post key (nI n) fc ks vs (d + 1) (nI i) := by
  have hpn := C.1
  intro d
  induction d with
  | zero =>
    intro i hi
    obtain rfl : i = p := by omega
    by_cases z : i < n
    · have h1 : ¬ ks i < key := fun t => absurd ((C.2 i z).mp t) (Nat.lt_irrefl i)
      refine br_f (nI_ge z (by omega)) ⟨vp_in_nI (by omega) (by omega), ?_⟩
      rw [nI_clamp (n := i) (by omega)]
      exact br_t (Int32.not_lt.mp h1) hp
    · exact br_t (nI_le (by omega) (by omega)) hp
  | succ d ih =>
    intro i hi
    have h1 : ks i < key := (C.2 i (by omega)).mpr (by omega)
    refine br_f (nI_ge (by omega) (by omega)) ⟨vp_in_nI (by omega) (by omega), ?_⟩
    rw [nI_clamp (n := i) (by omega)]
    exact br_f (Int32.not_le.mpr h1) (nm_r (nI_1 i) (ih (i + 1) (by omega)))
theorem rb_yb {n p : Nat} (hn : n ≤ 48) {post : Int32 → Prop} {key fc : Int32} {ks vs : Nat → Int32} (C : rb_Cut n (fun i => ks i < key) p) (hp : post (nI p)) : wpY_below post (nI n, fc, ks, vs) key :=
  ⟨p + 1, rb_ybL hn post key fc ks vs C hp p 0 (by omega)⟩
theorem rb_yh1 {n p : Nat} (hn : n ≤ 48) {post : Int32 → Prop} {key fc : Int32} {ks vs : Nat → Int32} (C : rb_Cut n (fun i => ks i < key) p) (h : p < n) (e : ks p = key) (hp : post 1) : wpY_holds post (nI n, fc, ks, vs) key := by
  unfold wpY_holds
  dsimp only
  refine rb_yb hn C ?_
  rw [nI_clamp (n := p) (by omega)]
  exact br_f (nI_ge h (by omega)) ⟨vp_in_nI (by omega) (by omega), br_t e hp⟩
theorem rb_yh0 {n p : Nat} (hn : n ≤ 48) {post : Int32 → Prop} {key fc : Int32} {ks vs : Nat → Int32} (C : rb_Cut n (fun i => ks i < key) p) (h : ¬ (p < n ∧ ks p = key)) (hp : post 0) : wpY_holds post (nI n, fc, ks, vs) key := by
  have hpn := C.1
  unfold wpY_holds
  dsimp only
  refine rb_yb hn C ?_
  rw [nI_clamp (n := p) (by omega)]
  by_cases z : p < n
  · exact br_f (nI_ge z (by omega)) ⟨vp_in_nI (by omega) (by omega), br_f (fun t => h ⟨z, t⟩) hp⟩
  · exact br_t (nI_le (by omega) (by omega)) hp
theorem rb_ypL {n p c : Nat} (hn : n < 48) (hp : p ≤ n) (hc : c ≤ n) (post : Int32 → SY → Prop) (key val : Int32) (ks vs : Nat → Int32)
    (H : ∀ a b, rb_Ins n p key ks a → rb_Ins n p val vs b → post 1 (nI (n + 1), nI (if p ≤ c then c + 1 else c), a, b)) :
    ∀ (d i : Nat) (a b : Nat → Int32), p + d = i → i ≤ n → rb_Sh n i ks a → rb_Sh n i vs b → wY_put_40 post key val (nI p) (nI n) (nI c) (d + 1) (nI i) a b := by
  intro d
  induction d with
  | zero =>
    intro i a b hi hin ha hb
    obtain rfl : p = i := by omega
    have h := H _ _ (rb_shI (x := key) ha) (rb_shI (x := val) hb)
    refine br_t (nI_le (by omega) (by omega)) ?_
    rw [nI_clamp (n := p) (by omega)]
    refine ⟨vp_in_nI (by omega) (by omega), nm_e ⟨vp_in_nI (by omega) (by omega), nm_e ?_⟩⟩
    by_cases z : p ≤ c
    · rw [if_pos z] at h
      have h117 : wY_put_117 post (nI n) (nI c) (upd a p key) (upd b p val) := by
        unfold wY_put_117
        refine nm_r (nI_1 c) ?_
        unfold wY_put_127
        exact nm_r (nI_1 n) h
      by_cases q : c = n
      · exact br_t (by rw [q]) h117
      · exact br_f (fun t => q ((nI_eq (by omega) (by omega)).mp t)) (br_f (nI_nlt z (by omega)) h117)
    · rw [if_neg z] at h
      have h127 : wY_put_127 post (nI n) (nI c) (upd a p key) (upd b p val) := by
        unfold wY_put_127
        exact nm_r (nI_1 n) h
      have q : ¬ c = n := by omega
      exact br_f (fun t => q ((nI_eq (by omega) (by omega)).mp t)) (br_t (nI_lt (by omega) (by omega)) h127)
  | succ d ih =>
    intro i a b hi hin ha hb
    obtain ⟨m, rfl⟩ : ∃ m, i = m + 1 := ⟨i - 1, by omega⟩
    refine br_f (nI_ge (by omega) (by omega)) ?_
    rw [nI_pred m, nI_clamp (n := m) (by omega), nI_clamp (n := m + 1) (by omega)]
    refine ⟨vp_in_nI (by omega) (by omega), vp_in_nI (by omega) (by omega), nm_e ⟨vp_in_nI (by omega) (by omega), vp_in_nI (by omega) (by omega), nm_e (nm_r (pk_m1 m) ?_)⟩⟩
    exact ih m _ _ (by omega) (by omega) (rb_shS hin ha) (rb_shS hin hb)
theorem rb_yput1 {n p : Nat} (hn : n ≤ 48) {post : Int32 → SY → Prop} {key val fc : Int32} {ks vs : Nat → Int32} (C : rb_Cut n (fun i => ks i < key) p) (h : p < n) (e : ks p = key)
    (H : post 0 (nI n, fc, ks, upd vs p val)) : wpY_put post (nI n, fc, ks, vs) key val := by
  unfold wpY_put
  dsimp only
  refine rb_yb hn C ?_
  refine rb_yh1 hn C h e ?_
  rw [nI_clamp (n := p) (by omega)]
  exact br_f (by decide) ⟨vp_in_nI (by omega) (by omega), nm_e H⟩
theorem rb_yput2 {n p c : Nat} (hn : n < 48) (hc : c ≤ n) {post : Int32 → SY → Prop} {key val : Int32} {ks vs : Nat → Int32} (C : rb_Cut n (fun i => ks i < key) p) (h : ¬ (p < n ∧ ks p = key))
    (H : ∀ a b, rb_Ins n p key ks a → rb_Ins n p val vs b → post 1 (nI (n + 1), nI (if p ≤ c then c + 1 else c), a, b)) : wpY_put post (nI n, nI c, ks, vs) key val := by
  have hpn := C.1
  unfold wpY_put
  dsimp only
  refine rb_yb (by omega) C ?_
  refine rb_yh0 (by omega) C h ?_
  have q : ¬ nI n = 48 := fun t => absurd ((nI_eq (b := 48) (by omega) (by decide)).mp t) (by omega)
  refine br_t rfl (br_f q ?_)
  exact ⟨n - p + 1, rb_ypL hn hpn hc post key val ks vs H (n - p) n ks vs (by omega) (by omega) (rb_sh0 n ks) (rb_sh0 n vs)⟩
theorem rb_yput3 {n p : Nat} (hn : n = 48) {post : Int32 → SY → Prop} {key val fc : Int32} {ks vs : Nat → Int32} (C : rb_Cut n (fun i => ks i < key) p) (h : ¬ (p < n ∧ ks p = key))
    (H : post (-1) (nI n, fc, ks, vs)) : wpY_put post (nI n, fc, ks, vs) key val := by
  unfold wpY_put
  dsimp only
  refine rb_yb (by omega) C ?_
  refine rb_yh0 (by omega) C h ?_
  have q : nI n = 48 := by rw [hn]; rfl
  exact br_t rfl (br_t q H)
theorem rb_yrL {n p c : Nat} (hn : n ≤ 48) (hp : p < n) (hc : c ≤ n) (post : Int32 → SY → Prop) (ks vs : Nat → Int32)
    (H : ∀ x y, rb_Gap n p (p + 1) ks x → rb_Gap n p (p + 1) vs y → post 1 (nI (n - 1), nI (if p < c then c - 1 else c), x, y)) :
    ∀ (d i : Nat) (x y : Nat → Int32), i + d + 1 = n → p ≤ i → rb_Cl p 1 (i + 1) ks x → rb_Cl p 1 (i + 1) vs y → wY_remove_28 post (nI p) (nI (n - 1)) (nI c) (d + 1) (nI i) x y := by
  intro d
  induction d with
  | zero =>
    intro i x y hi hpi hx hy
    obtain rfl : n = i + 1 := by omega
    have h := H x y (rb_clG (by omega) hx) (rb_clG (by omega) hy)
    refine br_t (nI_le (by omega) (by omega)) ?_
    by_cases z : p < c
    · rw [if_pos z] at h
      exact br_f (nI_ge z (by omega)) (nm_r (rb_p1 (by omega)) h)
    · rw [if_neg z] at h
      exact br_t (nI_le (by omega) (by omega)) h
  | succ d ih =>
    intro i x y hi hpi hx hy
    refine br_f (nI_ge (by omega) (by omega)) ?_
    rw [nI_1 i, nI_clamp (n := i) (by omega), nI_clamp (n := i + 1) (by omega)]
    refine ⟨vp_in_nI (by omega) (by omega), vp_in_nI (by omega) (by omega), nm_e ⟨vp_in_nI (by omega) (by omega), vp_in_nI (by omega) (by omega), nm_e (nm_e ?_)⟩⟩
    exact ih (i + 1) _ _ (by omega) (by omega) (rb_clS (by omega) rfl hx) (rb_clS (by omega) rfl hy)
theorem rb_yrem1 {n p c : Nat} (hn : n ≤ 48) (hc : c ≤ n) {post : Int32 → SY → Prop} {key : Int32} {ks vs : Nat → Int32} (C : rb_Cut n (fun i => ks i < key) p) (h : p < n) (e : ks p = key)
    (H : ∀ x y, rb_Gap n p (p + 1) ks x → rb_Gap n p (p + 1) vs y → post 1 (nI (n - 1), nI (if p < c then c - 1 else c), x, y)) : wpY_remove post (nI n, nI c, ks, vs) key := by
  unfold wpY_remove
  dsimp only
  refine rb_yh1 hn C h e ?_
  refine br_f (by decide) ?_
  refine rb_yb hn C ?_
  refine nm_r (rb_p1 (by omega)) ?_
  exact ⟨n - 1 - p + 1, rb_yrL hn h hc post ks vs H (n - 1 - p) p ks vs (by omega) (by omega) (rb_cl0 (by omega) ks) (rb_cl0 (by omega) vs)⟩
theorem rb_yrem0 {n p : Nat} (hn : n ≤ 48) {post : Int32 → SY → Prop} {key fc : Int32} {ks vs : Nat → Int32} (C : rb_Cut n (fun i => ks i < key) p) (h : ¬ (p < n ∧ ks p = key))
    (H : post 0 (nI n, fc, ks, vs)) : wpY_remove post (nI n, fc, ks, vs) key := by
  unfold wpY_remove
  dsimp only
  refine rb_yh0 hn C h ?_
  exact br_t rfl H
theorem rb_yget1 {n p : Nat} (hn : n ≤ 48) {post : Int32 → Prop} {key fc : Int32} {ks vs : Nat → Int32} (C : rb_Cut n (fun i => ks i < key) p) (h : p < n) (e : ks p = key)
    (H : post (vs p)) : wpY_get post (nI n, fc, ks, vs) key := by
  unfold wpY_get
  dsimp only
  refine rb_yb hn C ?_
  refine rb_yh1 hn C h e ?_
  rw [nI_clamp (n := p) (by omega)]
  exact br_f (by decide) ⟨vp_in_nI (by omega) (by omega), H⟩
theorem rb_yget0 {n p : Nat} (hn : n ≤ 48) {post : Int32 → Prop} {key fc : Int32} {ks vs : Nat → Int32} (C : rb_Cut n (fun i => ks i < key) p) (h : ¬ (p < n ∧ ks p = key))
    (H : post 0) : wpY_get post (nI n, fc, ks, vs) key := by
  unfold wpY_get
  dsimp only
  refine rb_yb hn C ?_
  refine rb_yh0 hn C h ?_
  exact br_t rfl H
theorem rb_yplace1 {n p : Nat} (hn : n ≤ 48) {post : Int32 → Prop} {key fc : Int32} {ks vs : Nat → Int32} (C : rb_Cut n (fun i => ks i < key) p) (h : p < n) (e : ks p = key)
    (H : post (nI p)) : wpY_place post (nI n, fc, ks, vs) key := by
  unfold wpY_place
  dsimp only
  refine rb_yh1 hn C h e ?_
  refine br_f (by decide) ?_
  exact rb_yb hn C H
theorem rb_yplace0 {n p : Nat} (hn : n ≤ 48) {post : Int32 → Prop} {key fc : Int32} {ks vs : Nat → Int32} (C : rb_Cut n (fun i => ks i < key) p) (h : ¬ (p < n ∧ ks p = key))
    (H : post (-1)) : wpY_place post (nI n, fc, ks, vs) key := by
  unfold wpY_place
  dsimp only
  refine rb_yh0 hn C h ?_
  exact br_t rfl H
theorem rb_yseek {n p : Nat} (hn : n ≤ 48) {post : Int32 → SY → Prop} {key fc : Int32} {ks vs : Nat → Int32} (C : rb_Cut n (fun i => ks i < key) p)
    (H : post (nI p) (nI n, nI p, ks, vs)) : wpY_seek post (nI n, fc, ks, vs) key := by
  unfold wpY_seek
  dsimp only
  refine rb_yb hn C ?_
  exact H
def rb_Rg (n a b : Nat) (lo hi : Int32) (ks : Nat → Int32) : Prop := ∀ i, i < n → ((lo ≤ ks i ∧ ks i ≤ hi) ↔ (a ≤ i ∧ i < b))
theorem rb_ycL {n a b : Nat} (hn : n ≤ 48) (hab : a ≤ b) (hb : b ≤ n) (post : Int32 → Prop) (lo hi fc : Int32) (ks vs : Nat → Int32) (R : rb_Rg n a b lo hi ks) (H : post (nI (b - a))) :
    ∀ d i : Nat, i + d = n → wY_count_5 post lo hi (nI n) fc ks vs (d + 1) (nI ((i - a) - (i - b))) (nI i) := by
  intro d
  induction d with
  | zero =>
    intro i hin
    have e : (i - a) - (i - b) = b - a := by omega
    rw [e]
    exact br_t (nI_le (by omega) (by omega)) H
  | succ d ih =>
    intro i hin
    have hS := ih (i + 1) (by omega)
    have hR := R i (by omega)
    refine br_f (nI_ge (by omega) (by omega)) ⟨vp_in_nI (by omega) (by omega), ?_⟩
    rw [nI_clamp (n := i) (by omega)]
    by_cases z1 : ks i < lo
    · have q : ¬ (a ≤ i ∧ i < b) := fun t => absurd z1 (Int32.not_lt.mpr (hR.mpr t).1)
      have e : (i + 1 - a) - (i + 1 - b) = (i - a) - (i - b) := by omega
      rw [e] at hS
      exact br_t z1 (nm_r (nI_1 i) hS)
    · refine br_f z1 ⟨vp_in_nI (by omega) (by omega), ?_⟩
      by_cases z2 : hi < ks i
      · have q : ¬ (a ≤ i ∧ i < b) := fun t => absurd z2 (Int32.not_lt.mpr (hR.mpr t).2)
        have e : (i + 1 - a) - (i + 1 - b) = (i - a) - (i - b) := by omega
        rw [e] at hS
        exact br_t z2 (nm_r (nI_1 i) hS)
      · have q : a ≤ i ∧ i < b := hR.mp ⟨Int32.not_lt.mp z1, Int32.not_lt.mp z2⟩
        have e : (i + 1 - a) - (i + 1 - b) = (i - a) - (i - b) + 1 := by omega
        rw [e] at hS
        exact br_f z2 (nm_r (nI_1 _) (nm_r (nI_1 i) hS))
theorem rb_yc {n a b : Nat} (hn : n ≤ 48) (hab : a ≤ b) (hb : b ≤ n) {post : Int32 → Prop} {lo hi fc : Int32} {ks vs : Nat → Int32} (R : rb_Rg n a b lo hi ks) (H : post (nI (b - a))) : wpY_count post (nI n, fc, ks, vs) lo hi := by
  have h := rb_ycL hn hab hb post lo hi fc ks vs R H n 0 (by omega)
  rw [Nat.zero_sub, Nat.zero_sub] at h
  exact ⟨n + 1, h⟩
theorem rb_ysL {n : Nat} (hn : n ≤ 48) (post : Int64 → Prop) (lo hi fc : Int32) (ks vs : Nat → Int32) (H : post (rb_sum ks vs lo hi n)) :
    ∀ d i : Nat, i + d = n → wY_sum_5 post lo hi (nI n) fc ks vs (d + 1) (rb_sum ks vs lo hi i) (nI i) := by
  intro d
  induction d with
  | zero =>
    intro i hin
    obtain rfl : i = n := by omega
    exact br_t (nI_le (by omega) (by omega)) H
  | succ d ih =>
    intro i hin
    have hS := ih (i + 1) (by omega)
    refine br_f (nI_ge (by omega) (by omega)) ⟨vp_in_nI (by omega) (by omega), ?_⟩
    rw [nI_clamp (n := i) (by omega)]
    by_cases z1 : ks i < lo
    · have e : rb_sum ks vs lo hi (i + 1) = rb_sum ks vs lo hi i := if_neg (fun t => absurd z1 (Int32.not_lt.mpr t.1))
      rw [e] at hS
      exact br_t z1 (nm_r (nI_1 i) hS)
    · refine br_f z1 ⟨vp_in_nI (by omega) (by omega), ?_⟩
      by_cases z2 : hi < ks i
      · have e : rb_sum ks vs lo hi (i + 1) = rb_sum ks vs lo hi i := if_neg (fun t => absurd z2 (Int32.not_lt.mpr t.2))
        rw [e] at hS
        exact br_t z2 (nm_r (nI_1 i) hS)
      · have e : rb_sum ks vs lo hi (i + 1) = rb_sum ks vs lo hi i + (vs i).toInt64 := if_pos ⟨Int32.not_lt.mp z1, Int32.not_lt.mp z2⟩
        exact br_f z2 ⟨vp_in_nI (by omega) (by omega), nm_r e.symm (nm_r (nI_1 i) hS)⟩
theorem rb_ys {n : Nat} (hn : n ≤ 48) {post : Int64 → Prop} {lo hi fc : Int32} {ks vs : Nat → Int32} (H : post (rb_sum ks vs lo hi n)) : wpY_sum post (nI n, fc, ks, vs) lo hi :=
  ⟨n + 1, rb_ysL hn post lo hi fc ks vs H n 0 (by omega)⟩
theorem rb_cutSelf {n m : Nat} {x : Nat → Int32} (h : rb_Srt n x) (hm : m < n) : rb_Cut n (fun i => x i < x m) m := by
  refine ⟨by omega, fun i hi => ⟨fun t => ?_, fun t => h i m t hm⟩⟩
  have t' : x i < x m := t
  by_cases z : i < m
  · exact z
  · by_cases e : i = m
    · rw [e] at t'
      exact absurd t' Int32.lt_irrefl
    · exact absurd (Int32.lt_trans t' (h m i (by omega) hi)) Int32.lt_irrefl
def rb_K (a b m g : Nat) : Prop := a ≤ g ∧ g ≤ b ∧ (g = b ∨ m ≤ g) ∧ (g = a ∨ g ≤ m)
theorem rb_yaL {n a b c : Nat} (hn : n ≤ 48) (hab : a ≤ b) (hb : b ≤ n) (hc : c ≤ n) (post : Int32 → SY → Prop) (lo hi : Int32) (ks vs : Nat → Int32) (hS : rb_Srt n ks) (R : rb_Rg n a b lo hi ks)
    (H : ∀ x y, rb_Gap n a b ks x → rb_Gap n a b vs y → post (nI (b - a)) (nI (n - (b - a)), nI (rb_cur a b c), x, y)) :
    ∀ (m g : Nat) (x y : Nat → Int32), m ≤ n → rb_K a b m g → rb_Gap n g b ks x → rb_Gap n g b vs y →
      wY_removeAll_10 post lo hi (m + 1) (nI (b - g)) (nI m + (-1)) (nI (n - (b - g))) (nI (rb_cur g b c)) x y := by
  intro m
  induction m with
  | zero =>
    intro g x y hm hK hx hy
    obtain ⟨k1, k2, k3, k4⟩ := hK
    obtain rfl : g = a := by omega
    exact br_t (by decide) (H x y hx hy)
  | succ m ih =>
    intro g x y hm hK hx hy
    obtain ⟨k1, k2, k3, k4⟩ := hK
    have hR := R m (by omega)
    have exm : x m = ks m := by
      by_cases z : m < g
      · rw [hx m (by omega), if_pos z]
      · rw [hx m (by omega), if_neg z]
        exact congrArg ks (by omega)
    rw [pk_m1 m]
    refine br_f (nI_pos (by omega)) ⟨vp_in_nI (by omega) (by omega), ?_⟩
    rw [nI_clamp (n := m) (by omega)]
    by_cases z1 : x m < lo
    · have q : ¬ (a ≤ m ∧ m < b) := fun t => absurd z1 (Int32.not_lt.mpr (by rw [exm]; exact (hR.mpr t).1))
      exact br_t z1 (nm_e (ih g x y (by omega) ⟨k1, k2, by omega, by omega⟩ hx hy))
    · refine br_f z1 ⟨vp_in_nI (by omega) (by omega), ?_⟩
      by_cases z2 : hi < x m
      · have q : ¬ (a ≤ m ∧ m < b) := fun t => absurd z2 (Int32.not_lt.mpr (by rw [exm]; exact (hR.mpr t).2))
        exact br_t z2 (nm_e (ih g x y (by omega) ⟨k1, k2, by omega, by omega⟩ hx hy))
      · have q : a ≤ m ∧ m < b := hR.mp (by rw [← exm]; exact ⟨Int32.not_lt.mp z1, Int32.not_lt.mp z2⟩)
        obtain rfl : g = m + 1 := by omega
        refine br_f z2 ⟨vp_in_nI (by omega) (by omega), ?_⟩
        refine rb_yrem1 (p := m) (by omega) (rb_cur_le (by omega) hb hc) (rb_cutSelf (rb_gapSrt hS hx) (by omega)) (by omega) rfl ?_
        intro x' y' hx' hy'
        rw [rb_cur1 (by omega)]
        dsimp only
        refine nm_r (nI_1 _) (nm_e ?_)
        have e1 : n - (b - (m + 1)) - 1 = n - (b - m) := by omega
        have e2 : b - (m + 1) + 1 = b - m := by omega
        rw [e1, e2]
        exact ih m x' y' (by omega) ⟨q.1, by omega, by omega, by omega⟩ (rb_gap1 (by omega) hb rfl hx hx') (rb_gap1 (by omega) hb rfl hy hy')
theorem rb_ya {n a b c : Nat} (hn : n ≤ 48) (hab : a ≤ b) (hb : b ≤ n) (hc : c ≤ n) {post : Int32 → SY → Prop} {lo hi : Int32} {ks vs : Nat → Int32} (hS : rb_Srt n ks) (R : rb_Rg n a b lo hi ks)
    (H : ∀ x y, rb_Gap n a b ks x → rb_Gap n a b vs y → post (nI (b - a)) (nI (n - (b - a)), nI (rb_cur a b c), x, y)) : wpY_removeAll post (nI n, nI c, ks, vs) lo hi := by
  have h := rb_yaL hn hab hb hc post lo hi ks vs hS R H n b ks vs (Nat.le_refl n) ⟨hab, Nat.le_refl b, Or.inl rfl, Or.inr hb⟩ (rb_gap0 n b ks) (rb_gap0 n b vs)
  rw [Nat.sub_self, Nat.sub_zero, rb_cur_0] at h
  unfold wpY_removeAll
  dsimp only
  exact nm_r (Int32.sub_eq_add_neg _ _) ⟨n + 1, h⟩
