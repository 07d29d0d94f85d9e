/-! 10: the constructors -/
section
variable {T W S K : Nat} {wv wh ds xd yd de dd ph ra sh lh se le sd ld hs ak ao ap al yo yp lo lg : Nat → Int32} {sr as : Nat → Int64}
theorem in_x2 {post : SX → Prop} (h : post (nI T, nI W, nI S, wv, wh, ds, xd, de, dd, mw_row ph (fun _ => 5) 0 4, ra, sh, se, sd, mw_row ak (fun _ => 14) 0 4, mw_row ao (fun _ => -1) 0 4, mw_row ap (fun _ => -1) 0 4, mw_row al (fun _ => 0) 0 4, mw_row lo (fun _ => 12) 0 4, lg)) : ∀ d i, i + d = 4 → wX_init_190 post (d + 1) (nI i) (nI T) (nI W) (nI S) wv wh ds xd de dd (mw_row ph (fun _ => 5) 0 i) ra sh se sd (mw_row ak (fun _ => 14) 0 i) (mw_row ao (fun _ => -1) 0 i) (mw_row ap (fun _ => -1) 0 i) (mw_row al (fun _ => 0) 0 i) (mw_row lo (fun _ => 12) 0 i) lg := by
  intro d
  induction d with
  | zero =>
    intro i hi
    have e : i = 4 := by omega
    subst e
    exact br_t (nI_le (a := 4) (b := 4) (Nat.le_refl _) (by decide)) h
  | succ d ih =>
    intro i hi
    have hi4 : i < 4 := by omega
    have v4 : vp_in (nI i) 4 := vp_in_nI hi4 (by decide)
    have q := ih (i + 1) (by omega)
    rw [← mw_row_s0 ph, ← mw_row_s0 lo, ← mw_row_s0 ak, ← mw_row_s0 ao, ← mw_row_s0 ap, ← mw_row_s0 al] at q
    exact br_f (nI_ge (b := 4) hi4 (by decide)) ⟨v4, nm_r (mw_uc (by omega)) ⟨v4, nm_r (mw_uc (by omega)) (xa_sa hi4 (nm_r (nI_1 i) q))⟩⟩
theorem in_x1 {post : SX → Prop} (h : post (nI T, nI W, nI S, wv, mw_row wh (fun _ => -1) 0 16, ds, xd, de, dd, mw_row ph (fun _ => 5) 0 4, ra, sh, se, sd, mw_row ak (fun _ => 14) 0 4, mw_row ao (fun _ => -1) 0 4, mw_row ap (fun _ => -1) 0 4, mw_row al (fun _ => 0) 0 4, mw_row lo (fun _ => 12) 0 4, lg)) : ∀ d i, i + d = 16 → wX_init_166 post (nI T) (nI W) (nI S) (d + 1) (nI i) wv (mw_row wh (fun _ => -1) 0 i) ds xd de dd ph ra sh se sd ak ao ap al lo lg := by
  intro d
  induction d with
  | zero =>
    intro i hi
    have e : i = 16 := by omega
    subst e
    have q := in_x2 h 4 0 (by omega)
    rw [mw_row_0, mw_row_0, mw_row_0, mw_row_0, mw_row_0, mw_row_0] at q
    exact br_t (nI_le (a := 16) (b := 16) (Nat.le_refl _) (by decide)) ⟨5, q⟩
  | succ d ih =>
    intro i hi
    have hi4 : i < 16 := by omega
    have q := ih (i + 1) (by omega)
    rw [← mw_row_s0 wh] at q
    exact br_f (nI_ge (b := 16) hi4 (by decide)) ⟨vp_in_nI hi4 (by decide), nm_r (mw_uc (by omega)) (nm_r (nI_1 i) q)⟩
theorem in_y {post : SY → Prop} (h : post (nI T, nI W, nI S, lN K, wv, yd, de, dd, lh, le, ld, hs, mw_row ph (fun _ => 5) 0 4, mw_row lo (fun _ => 12) 0 4, lg, sr, mw_row ak (fun _ => 14) 0 4, yo, as, yp)) : ∀ d i, i + d = 4 → wY_init_162 post (nI T) (nI W) (nI S) (lN K) (d + 1) (nI i) wv yd de dd lh le ld hs (mw_row ph (fun _ => 5) 0 i) (mw_row lo (fun _ => 12) 0 i) lg sr (mw_row ak (fun _ => 14) 0 i) yo as yp := by
  intro d
  induction d with
  | zero =>
    intro i hi
    have e : i = 4 := by omega
    subst e
    exact br_t (nI_le (a := 4) (b := 4) (Nat.le_refl _) (by decide)) h
  | succ d ih =>
    intro i hi
    have hi4 : i < 4 := by omega
    have v4 : vp_in (nI i) 4 := vp_in_nI hi4 (by decide)
    have q := ih (i + 1) (by omega)
    rw [← mw_row_s0 ph, ← mw_row_s0 lo, ← mw_row_s0 ak] at q
    exact br_f (nI_ge (b := 4) hi4 (by decide)) ⟨v4, nm_r (mw_uc (by omega)) ⟨v4, nm_r (mw_uc (by omega)) ⟨v4, nm_r (mw_uc (by omega)) (nm_r (nI_1 i) q)⟩⟩⟩
end
def in_z : Nat → Int32 := fun _ => 0
def in_zl : Nat → Int64 := fun _ => 0
theorem in_rel {T W S : Nat} (hB : mw_B T W S) : mw_I T W S 0 (nI T, nI W, nI S, in_z, mw_row in_z (fun _ => -1) 0 16, in_z, in_z, in_z, in_z, mw_row in_z (fun _ => 5) 0 4, in_z, in_z, in_z, in_z, mw_row in_z (fun _ => 14) 0 4, mw_row in_z (fun _ => -1) 0 4, mw_row in_z (fun _ => -1) 0 4, mw_row in_z (fun _ => 0) 0 4, mw_row in_z (fun _ => 12) 0 4, in_z) (nI T, nI W, nI S, lN 0, in_z, in_z, in_z, in_z, in_z, in_z, in_z, in_z, mw_row in_z (fun _ => 5) 0 4, mw_row in_z (fun _ => 12) 0 4, in_z, in_zl, mw_row in_z (fun _ => 14) 0 4, in_z, in_zl, in_z) := by
  have hT : T ≤ 4 := hB.2.1
  have hW : W ≤ 16 := hB.2.2.2.1
  have r4 : ∀ (x : Int32) (t : Nat), t < T → mw_row in_z (fun _ => x) 0 4 t = x := fun x t ht => mw_row_i (g := fun _ => x) (Nat.zero_le t) (by omega)
  have r16 : ∀ (a : Nat), a < W → mw_row in_z (fun _ => -1) 0 16 a = -1 := fun a ha => mw_row_i (g := fun _ => -1) (Nat.zero_le a) (by omega)
  refine mw_mk hB (fun t ht => ⟨fun a ha => ⟨rfl, Or.inl rfl⟩, ?_⟩) (fun t ht => Or.inr (Or.inr (r4 5 t ht))) (fun a ha => ⟨Or.inl (r16 a ha), fun t ht => ?_⟩) (fun a s ha hs hh => ?_) (fun t ht => Or.inl ⟨r4 14 t ht, r4 (-1) t ht, r4 (-1) t ht, r4 0 t ht⟩) (fun s hs => ⟨0, Nat.le_refl 0, rfl⟩)
  · have e : mw_cnt in_z (t * 16) W = 0 := mw_cnt_0 (fun a ha => rfl)
    rw [e]
    exact nI_0.symm
  · rw [r16 a ha, if_neg (mw_nm' (by omega))]
    rfl
  · rw [r16 a ha] at hh
    exact absurd hh (mw_nm' (by omega))
theorem i_vc0 (k0 : Int32) (k1 : Int32) (k2 : Int32) : wpX_init (fun u => wpY_init (fun v => i_Rel 3 u v) k0 k1 k2) k0 k1 k2 := by
  obtain ⟨T, t1, t2, tX, tY⟩ := xa_clampT k0 2 4 (by decide) (by decide)
  obtain ⟨W, w1, w2, wX, wY⟩ := xa_clampT k1 4 16 (by decide) (by decide)
  obtain ⟨S, s1, s2, sX, sY⟩ := xa_clampT k2 1 8 (by decide) (by decide)
  have hB : mw_B T W S := ⟨t1, t2, w1, w2, s1, s2⟩
  have R := in_rel hB
  have Y : wpY_init (fun v => i_Rel 3 (nI T, nI W, nI S, in_z, mw_row in_z (fun _ => -1) 0 16, in_z, in_z, in_z, in_z, mw_row in_z (fun _ => 5) 0 4, in_z, in_z, in_z, in_z, mw_row in_z (fun _ => 14) 0 4, mw_row in_z (fun _ => -1) 0 4, mw_row in_z (fun _ => -1) 0 4, mw_row in_z (fun _ => 0) 0 4, mw_row in_z (fun _ => 12) 0 4, in_z) v) k0 k1 k2 := by
    have q := in_y (post := fun v => i_Rel 3 (nI T, nI W, nI S, in_z, mw_row in_z (fun _ => -1) 0 16, in_z, in_z, in_z, in_z, mw_row in_z (fun _ => 5) 0 4, in_z, in_z, in_z, in_z, mw_row in_z (fun _ => 14) 0 4, mw_row in_z (fun _ => -1) 0 4, mw_row in_z (fun _ => -1) 0 4, mw_row in_z (fun _ => 0) 0 4, mw_row in_z (fun _ => 12) 0 4, in_z) v) (T := T) (W := W) (S := S) (K := 0) (wv := in_z) (yd := in_z) (de := in_z) (dd := in_z) (lh := in_z) (le := in_z) (ld := in_z) (hs := in_z) (ph := in_z) (lo := in_z) (lg := in_z) (sr := in_zl) (ak := in_z) (yo := in_z) (as := in_zl) (yp := in_z) ⟨T, W, S, 0, by decide, R⟩ 4 0 (by decide)
    rw [mw_row_0, mw_row_0, mw_row_0] at q
    unfold wpY_init
    refine tY _ _ ?_
    refine wY _ _ ?_
    refine sY _ _ ?_
    exact ⟨5, q⟩
  have q := in_x1 (post := fun u => wpY_init (fun v => i_Rel 3 u v) k0 k1 k2) (T := T) (W := W) (S := S) (wv := in_z) (wh := in_z) (ds := in_z) (xd := in_z) (de := in_z) (dd := in_z) (ph := in_z) (ra := in_z) (sh := in_z) (se := in_z) (sd := in_z) (ak := in_z) (ao := in_z) (ap := in_z) (al := in_z) (lo := in_z) (lg := in_z) Y 16 0 (by decide)
  rw [mw_row_0] at q
  unfold wpX_init
  refine tX _ ?_
  refine wX _ ?_
  refine sX _ ?_
  exact ⟨17, q⟩
