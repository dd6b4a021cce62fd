/-! what is owed -/
/-- the two hold the same entries: below n the rows agree, and they are sorted by key; above n nothing is said -/
def i_Rel (k : Nat) (u : SX) (v : SY) : Prop := ∃ n c : Nat, ∃ xk xv yk yv : Nat → Int32, n ≤ 48 ∧ c ≤ n ∧ rb_Srt n xk ∧ rb_Agr n xk yk ∧ rb_Agr n xv yv ∧ u = (nI n, nI c, xk, xv) ∧ v = (nI n, nI c, yk, yv)
theorem rb_mk (k : Nat) {n c : Nat} {xk xv yk yv : Nat → Int32} (hn : n ≤ 48) (hc : c ≤ n) (hS : rb_Srt n xk) (hK : rb_Agr n xk yk) (hV : rb_Agr n xv yv) : i_Rel k (nI n, nI c, xk, xv) (nI n, nI c, yk, yv) := by
  unfold i_Rel
  exact ⟨n, c, xk, xv, yk, yv, hn, hc, hS, hK, hV, rfl, rfl⟩
theorem rb_updA {n p : Nat} {a b : Nat → Int32} (x : Int32) (h : rb_Agr n a b) : rb_Agr n (upd a p x) (upd b p x) := by
  intro j hj
  by_cases e : j = p
  · rw [e, pk_us, pk_us]
  · rw [pk_un e, pk_un e]
    exact h j hj
theorem i_up {k : Nat} {u : SX} {v : SY} (h : i_Rel k u v) : i_Rel (k + 3) u v := h
theorem i_vc0 : wpX_init (fun u => wpY_init (fun v => i_Rel 0 u v)) := by
  have h := rb_mk 0 (n := 0) (c := 0) (xk := fun _ => 0) (xv := fun _ => 0) (yk := fun _ => 0) (yv := fun _ => 0) (by omega) (by omega) (fun i j _ hj => absurd hj (Nat.not_lt_zero j)) (fun j hj => absurd hj (Nat.not_lt_zero j)) (fun j hj => absurd hj (Nat.not_lt_zero j))
  rw [nI_0] at h
  unfold wpX_init wpY_init
  exact h
theorem i_vc_put {k : Nat} {u : SX} {v : SY} (I : i_Rel k u v) (hk : k + 3 ≤ 1536) (v1 : Int32) (v2 : Int32) : wpX_put (fun r u' => wpY_put (fun r' v' => r' = r ∧ i_Rel (k + 3) u' v') v v1 v2) u v1 v2 := by
  obtain ⟨n, c, xk, xv, yk, yv, hn, hc, hS, hK, hV, rfl, rfl⟩ := I
  obtain ⟨p, C⟩ := rb_cutLt hS v1
  have C' := rb_cutLtA hK C
  have hpn := C.1
  by_cases h : p < n ∧ xk p = v1
  · have h' : yk p = v1 := by rw [hK p h.1]; exact h.2
    refine rb_xput1 hn C h.1 h.2 ?_
    refine rb_yput1 hn C' h.1 h' ?_
    exact ⟨rfl, rb_mk _ hn hc hS hK (rb_updA v2 hV)⟩
  · have h' : ¬ (p < n ∧ yk p = v1) := fun z => h ⟨z.1, by rw [← hK p z.1]; exact z.2⟩
    by_cases f : n < 48
    · refine rb_xput2 f hc C h ?_
      intro a b ha hb
      refine rb_yput2 f hc C' h' ?_
      intro a' b' ha' hb'
      refine ⟨rfl, rb_mk _ (by omega) ?_ (rb_insSrt hS C h ha) (rb_insA hpn hK ha ha') (rb_insA hpn hV hb hb')⟩
      split <;> omega
    · refine rb_xput3 (by omega) C h ?_
      refine rb_yput3 (by omega) C' h' ?_
      exact ⟨rfl, rb_mk _ hn hc hS hK hV⟩
theorem i_vc_remove {k : Nat} {u : SX} {v : SY} (I : i_Rel k u v) (hk : k + 3 ≤ 1536) (v1 : Int32) : wpX_remove (fun r u' => wpY_remove (fun r' v' => r' = r ∧ i_Rel (k + 3) u' v') v v1) u v1 := by
  obtain ⟨n, c, xk, xv, yk, yv, hn, hc, hS, hK, hV, rfl, rfl⟩ := I
  obtain ⟨p, C⟩ := rb_cutLt hS v1
  have C' := rb_cutLtA hK C
  have hpn := C.1
  by_cases h : p < n ∧ xk p = v1
  · have h' : yk p = v1 := by rw [hK p h.1]; exact h.2
    refine rb_xrem1 hn hc C h.1 h.2 ?_
    intro x y hx hy
    refine rb_yrem1 hn hc C' h.1 h' ?_
    intro x' y' hx' hy'
    have e : n - 1 = n - (p + 1 - p) := by omega
    rw [← rb_cur_s, e]
    exact ⟨rfl, rb_mk _ (by omega) (rb_cur_le (by omega) (by omega) hc) (rb_gapSrt hS hx) (rb_gapA hK hx hx') (rb_gapA hV hy hy')⟩
  · have h' : ¬ (p < n ∧ yk p = v1) := fun z => h ⟨z.1, by rw [← hK p z.1]; exact z.2⟩
    refine rb_xrem0 hn C h ?_
    refine rb_yrem0 hn C' h' ?_
    exact ⟨rfl, rb_mk _ hn hc hS hK hV⟩
theorem i_vc_get {k : Nat} {u : SX} {v : SY} (I : i_Rel k u v) (hk : k + 3 ≤ 1536) (v1 : Int32) : wpX_get (fun r => wpY_get (fun r' => r' = r ∧ i_Rel (k + 3) u v) v v1) u v1 := by
  obtain ⟨n, c, xk, xv, yk, yv, hn, hc, hS, hK, hV, rfl, rfl⟩ := I
  obtain ⟨p, C⟩ := rb_cutLt hS v1
  have C' := rb_cutLtA hK C
  by_cases h : p < n ∧ xk p = v1
  · have h' : yk p = v1 := by rw [hK p h.1]; exact h.2
    refine rb_xget1 hn C h.1 h.2 ?_
    refine rb_yget1 hn C' h.1 h' ?_
    exact ⟨hV p h.1, rb_mk _ hn hc hS hK hV⟩
  · have h' : ¬ (p < n ∧ yk p = v1) := fun z => h ⟨z.1, by rw [← hK p z.1]; exact z.2⟩
    refine rb_xget0 hn C h ?_
    refine rb_yget0 hn C' h' ?_
    exact ⟨rfl, rb_mk _ hn hc hS hK hV⟩
theorem i_vc_place {k : Nat} {u : SX} {v : SY} (I : i_Rel k u v) (hk : k + 3 ≤ 1536) (v1 : Int32) : wpX_place (fun r => wpY_place (fun r' => r' = r ∧ i_Rel (k + 3) u v) v v1) u v1 := by
  obtain ⟨n, c, xk, xv, yk, yv, hn, hc, hS, hK, hV, rfl, rfl⟩ := I
  obtain ⟨p, C⟩ := rb_cutLt hS v1
  have C' := rb_cutLtA hK C
  by_cases h : p < n ∧ xk p = v1
  · have h' : yk p = v1 := by rw [hK p h.1]; exact h.2
    refine rb_xplace1 hn C h.1 h.2 ?_
    refine rb_yplace1 hn C' h.1 h' ?_
    exact ⟨rfl, rb_mk _ hn hc hS hK hV⟩
  · have h' : ¬ (p < n ∧ yk p = v1) := fun z => h ⟨z.1, by rw [← hK p z.1]; exact z.2⟩
    refine rb_xplace0 hn C h ?_
    refine rb_yplace0 hn C' h' ?_
    exact ⟨rfl, rb_mk _ hn hc hS hK hV⟩
theorem rb_rg1 {n a b : Nat} {lo hi : Int32} {ks : Nat → Int32} (A : rb_Cut n (fun i => ks i < lo) a) (B : rb_Cut n (fun i => ks i ≤ hi) b) : rb_Rg n a b lo hi ks := by
  intro i hin
  have h1 : ks i < lo ↔ i < a := A.2 i hin
  have h2 : ks i ≤ hi ↔ i < b := B.2 i hin
  rw [h2, ← Int32.not_lt, h1, Nat.not_lt]
theorem rb_rgA {n a b : Nat} {lo hi : Int32} {x y : Nat → Int32} (e : rb_Agr n x y) (h : rb_Rg n a b lo hi x) : rb_Rg n a b lo hi y := by
  intro i hin
  rw [e i hin]
  exact h i hin
theorem rb_cutLe2 {n a b : Nat} {lo hi : Int32} {ks : Nat → Int32} (h : lo ≤ hi) (A : rb_Cut n (fun i => ks i < lo) a) (B : rb_Cut n (fun i => ks i ≤ hi) b) : a ≤ b := by
  by_cases z : a ≤ b
  · exact z
  · have hb : b < n := by have := A.1; omega
    have h1 : ks b < lo := (A.2 b hb).mpr (by omega)
    have h2 : ks b ≤ hi := Int32.le_of_lt (Int32.lt_of_lt_of_le h1 h)
    exact absurd ((B.2 b hb).mp h2) (Nat.lt_irrefl b)
theorem rb_rg0 {n : Nat} {lo hi : Int32} {ks : Nat → Int32} (h : ¬ lo ≤ hi) : rb_Rg n 0 0 lo hi ks := by
  intro i hin
  exact ⟨fun t => absurd (Int32.le_trans t.1 t.2) h, fun t => absurd t.2 (Nat.not_lt_zero i)⟩
theorem i_vc_count {k : Nat} {u : SX} {v : SY} (I : i_Rel k u v) (hk : k + 3 ≤ 1536) (v1 : Int32) (v2 : Int32) : wpX_count (fun r => wpY_count (fun r' => r' = r ∧ i_Rel (k + 3) u v) v v1 v2) u v1 v2 := by
  obtain ⟨n, c, xk, xv, yk, yv, hn, hc, hS, hK, hV, rfl, rfl⟩ := I
  obtain ⟨a, A⟩ := rb_cutLt hS v1
  obtain ⟨b, B⟩ := rb_cutLe hS v2
  unfold wpX_count
  dsimp only
  by_cases z : v1 ≤ v2
  · have hab := rb_cutLe2 z A B
    refine br_t z ?_
    refine rb_xb hn A ?_
    refine rb_xu hn B ?_
    rw [pk_sub hab]
    refine rb_yc hn hab B.1 (rb_rgA hK (rb_rg1 A B)) ?_
    exact ⟨rfl, rb_mk _ hn hc hS hK hV⟩
  · refine br_f z ?_
    refine rb_yc (a := 0) (b := 0) hn (by omega) (by omega) (rb_rg0 z) ?_
    exact ⟨rfl, rb_mk _ hn hc hS hK hV⟩
theorem i_vc_sum {k : Nat} {u : SX} {v : SY} (I : i_Rel k u v) (hk : k + 3 ≤ 1536) (v1 : Int32) (v2 : Int32) : wpX_sum (fun r => wpY_sum (fun r' => r' = r ∧ i_Rel (k + 3) u v) v v1 v2) u v1 v2 := by
  obtain ⟨n, c, xk, xv, yk, yv, hn, hc, hS, hK, hV, rfl, rfl⟩ := I
  refine rb_xs hn ?_
  refine rb_ys hn ?_
  exact ⟨rb_sumA n hK hV, rb_mk _ hn hc hS hK hV⟩
theorem i_vc_removeAll {k : Nat} {u : SX} {v : SY} (I : i_Rel k u v) (hk : k + 3 ≤ 1536) (v1 : Int32) (v2 : Int32) : wpX_removeAll (fun r u' => wpY_removeAll (fun r' v' => r' = r ∧ i_Rel (k + 3) u' v') v v1 v2) u v1 v2 := by
  obtain ⟨n, c, xk, xv, yk, yv, hn, hc, hS, hK, hV, rfl, rfl⟩ := I
  obtain ⟨a, A⟩ := rb_cutLt hS v1
  obtain ⟨b, B⟩ := rb_cutLe hS v2
  have hS' := rb_srtA hS hK
  unfold wpX_removeAll
  dsimp only
  by_cases z : v1 ≤ v2
  · have hab := rb_cutLe2 z A B
    have hbn := B.1
    refine br_t z ?_
    refine rb_xb hn A ?_
    refine rb_xu hn B ?_
    refine rb_xc hn hab hbn hc ?_
    intro x y hx hy
    dsimp only
    rw [pk_sub hab]
    refine rb_ya hn hab hbn hc hS' (rb_rgA hK (rb_rg1 A B)) ?_
    intro x' y' hx' hy'
    exact ⟨rfl, rb_mk _ (by omega) (rb_cur_le hab hbn hc) (rb_gapSrt hS hx) (rb_gapA hK hx hx') (rb_gapA hV hy hy')⟩
  · refine br_f z ?_
    refine rb_ya (a := 0) (b := 0) hn (by omega) (by omega) hc hS' (rb_rg0 z) ?_
    intro x' y' hx' hy'
    rw [rb_cur_0]
    exact ⟨rfl, rb_mk _ hn hc hS (rb_gapA hK (rb_gap0 n 0 xk) hx') (rb_gapA hV (rb_gap0 n 0 xv) hy')⟩
theorem i_vc_seek {k : Nat} {u : SX} {v : SY} (I : i_Rel k u v) (hk : k + 3 ≤ 1536) (v1 : Int32) : wpX_seek (fun r u' => wpY_seek (fun r' v' => r' = r ∧ i_Rel (k + 3) u' v') v v1) u v1 := by
  obtain ⟨n, c, xk, xv, yk, yv, hn, hc, hS, hK, hV, rfl, rfl⟩ := I
  obtain ⟨p, C⟩ := rb_cutLt hS v1
  refine rb_xseek hn C ?_
  refine rb_yseek hn (rb_cutLtA hK C) ?_
  exact ⟨rfl, rb_mk _ hn C.1 hS hK hV⟩
theorem i_vc_jump {k : Nat} {u : SX} {v : SY} (I : i_Rel k u v) (hk : k + 3 ≤ 1536) (v1 : Int32) : wpX_jump (fun r u' => wpY_jump (fun r' v' => r' = r ∧ i_Rel (k + 3) u' v') v v1) u v1 := by
  obtain ⟨n, c, xk, xv, yk, yv, hn, hc, hS, hK, hV, rfl, rfl⟩ := I
  have hE : i_Rel (k + 3) (nI n, nI n, xk, xv) (nI n, nI n, yk, yv) := rb_mk _ hn (Nat.le_refl n) hS hK hV
  unfold wpX_jump wpY_jump
  dsimp only
  rcases pk_ix v1 (n := n) (by omega) with h | h | ⟨j, hj, rfl⟩
  · exact br_t h (br_t h (br_t rfl (br_t rfl ⟨rfl, hE⟩)))
  · have h0 : ¬ v1 < 0 := fun t => nI_pos (n := n) (by omega) (Int32.lt_of_le_of_lt h t)
    exact br_f h0 (br_f (Int32.not_lt.mpr h) (br_f h0 (br_t h (br_t rfl (br_t rfl ⟨rfl, hE⟩)))))
  · have h0 : ¬ nI j < 0 := nI_pos (by omega)
    exact br_f h0 (br_t (nI_lt hj (by omega)) (br_f h0 (br_f (nI_ge hj (by omega)) (br_f (by decide) (br_f (by decide) ⟨rfl, rb_mk _ hn (by omega) hS hK hV⟩)))))
theorem i_vc_next {k : Nat} {u : SX} {v : SY} (I : i_Rel k u v) (hk : k + 3 ≤ 1536) : wpX_next (fun r u' => wpY_next (fun r' v' => r' = r ∧ i_Rel (k + 3) u' v') v) u := by
  obtain ⟨n, c, xk, xv, yk, yv, hn, hc, hS, hK, hV, rfl, rfl⟩ := I
  unfold wpX_next wpY_next
  dsimp only
  by_cases z : c < n
  · have q : ¬ nI c = nI n := fun t => absurd ((nI_eq (by omega) (by omega)).mp t) (by omega)
    have hE : i_Rel (k + 3) (nI n, nI (c + 1), xk, xv) (nI n, nI (c + 1), yk, yv) := rb_mk _ hn (by omega) hS hK hV
    refine br_t (nI_lt z (by omega)) (nm_r (nI_1 c) ?_)
    by_cases w : n ≤ c + 1
    · have hw : nI n ≤ nI (c + 1) := nI_le w (by omega)
      exact br_t hw (br_f q (nm_r (nI_1 c) (br_t hw ⟨rfl, hE⟩)))
    · have hw : ¬ nI n ≤ nI (c + 1) := nI_ge (by omega) (by omega)
      exact br_f hw (br_f q (nm_r (nI_1 c) (br_f hw ⟨rfl, hE⟩)))
  · obtain rfl : c = n := by omega
    exact br_f (nI_nlt (Nat.le_refl c) (by omega)) (br_t rfl ⟨rfl, rb_mk _ hn hc hS hK hV⟩)
theorem i_vc_back {k : Nat} {u : SX} {v : SY} (I : i_Rel k u v) (hk : k + 3 ≤ 1536) : wpX_back (fun r u' => wpY_back (fun r' v' => r' = r ∧ i_Rel (k + 3) u' v') v) u := by
  obtain ⟨n, c, xk, xv, yk, yv, hn, hc, hS, hK, hV, rfl, rfl⟩ := I
  unfold wpX_back wpY_back
  dsimp only
  by_cases z : 0 < c
  · have h0 : (0 : Int32) < nI c := by rw [← nI_0]; exact nI_lt z (by omega)
    exact br_t h0 (nm_r (rb_p1 z) (br_f (nI_ne0 z (by omega)) (nm_r (rb_p1 z) ⟨rfl, rb_mk _ hn (by omega) hS hK hV⟩)))
  · obtain rfl : c = 0 := by omega
    have h0 : ¬ (0 : Int32) < nI 0 := by decide
    exact br_f h0 (br_t nI_0 ⟨rfl, rb_mk _ hn hc hS hK hV⟩)
theorem i_vc_key {k : Nat} {u : SX} {v : SY} (I : i_Rel k u v) (hk : k + 3 ≤ 1536) : wpX_key (fun r => wpY_key (fun r' => r' = r ∧ i_Rel (k + 3) u v) v) u := by
  obtain ⟨n, c, xk, xv, yk, yv, hn, hc, hS, hK, hV, rfl, rfl⟩ := I
  have hE : i_Rel (k + 3) (nI n, nI c, xk, xv) (nI n, nI c, yk, yv) := rb_mk _ hn hc hS hK hV
  unfold wpX_key wpY_key
  dsimp only
  rw [nI_clamp (n := c) (by omega)]
  by_cases z : c < n
  · have hz : ¬ nI n ≤ nI c := nI_ge z (by omega)
    have hi : vp_in (nI c) 48 := vp_in_nI (by omega) (by omega)
    exact br_f hz ⟨hi, br_f hz ⟨hi, hK c z, hE⟩⟩
  · have hz : nI n ≤ nI c := nI_le (by omega) (by omega)
    exact br_t hz (br_t hz ⟨rfl, hE⟩)
theorem i_vc_set {k : Nat} {u : SX} {v : SY} (I : i_Rel k u v) (hk : k + 3 ≤ 1536) (v1 : Int32) : wpX_set (fun r u' => wpY_set (fun r' v' => r' = r ∧ i_Rel (k + 3) u' v') v v1) u v1 := by
  obtain ⟨n, c, xk, xv, yk, yv, hn, hc, hS, hK, hV, rfl, rfl⟩ := I
  unfold wpX_set wpY_set
  dsimp only
  rw [nI_clamp (n := c) (by omega)]
  by_cases z : c < n
  · have q : ¬ nI c = nI n := fun t => absurd ((nI_eq (by omega) (by omega)).mp t) (by omega)
    have hi : vp_in (nI c) 48 := vp_in_nI (by omega) (by omega)
    exact br_t (nI_lt z (by omega)) ⟨hi, nm_e ⟨hi, nm_e (br_f q ⟨hi, nm_e ⟨hi, nm_e ⟨hV c z, rb_mk _ hn hc hS hK (rb_updA v1 hV)⟩⟩⟩)⟩⟩
  · obtain rfl : c = n := by omega
    exact br_f (nI_nlt (Nat.le_refl c) (by omega)) (br_t rfl ⟨rfl, rb_mk _ hn hc hS hK hV⟩)
