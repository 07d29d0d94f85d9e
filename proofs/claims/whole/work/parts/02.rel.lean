/-! 02: the pieces of the relation, and what each change of the state does to them -/
/-- drafts: the same entries on both sides; the size is their number -/
def mw_D (T W : Nat) (xd yd ds : Nat → Int32) : Prop := ∀ t, t < T → (∀ a, a < W → yd (t * 16 + a) = xd (t * 16 + a) ∧ (xd (t * 16 + a) = 0 ∨ xd (t * 16 + a) = 1)) ∧ ds t = nI (mw_cnt xd (t * 16) W)
/-- phases, and what runs: a swap's entries are the same on both sides; a read's row has its one address -/
def mw_L (T W : Nat) (ph ra sh lh se le sd ld : Nat → Int32) : Prop := ∀ t, t < T →
  ((ph t = 9 ∨ ph t = 10 ∨ ph t = 11) ∧ ∀ a, a < W → lh (t * 16 + a) = sh (t * 16 + a) ∧ le (t * 16 + a) = se (t * 16 + a) ∧ ld (t * 16 + a) = sd (t * 16 + a)) ∨
  (ph t = 8 ∧ ∃ r, r < W ∧ ra t = nI r ∧ ∀ a, a < W → lh (t * 16 + a) = if a = r then 1 else 0) ∨ ph t = 5
/-- holders: nobody, or a thread that runs an undecided swap; the other side's table says the same -/
def mw_H (T W : Nat) (wh hs ph : Nat → Int32) : Prop := ∀ a, a < W → (wh a = -1 ∨ ∃ s, s < T ∧ wh a = nI s ∧ ph s = 9) ∧ ∀ t, t < T → hs (t * 16 + a) = if wh a = nI t then 1 else 0
/-- a swap that holds a word holds all its entries below it -/
def mw_P (T W : Nat) (wh sh : Nat → Int32) : Prop := ∀ a s, a < W → s < T → wh a = nI s → ∀ b, b < a → sh (s * 16 + b) ≠ 0 → wh b = nI s
/-- aims -/
def mw_A (T W K : Nat) (ph wh sh ak ao ap al yo yp : Nat → Int32) (sr as : Nat → Int64) : Prop := ∀ t, t < T →
  (ak t = 14 ∧ ao t = -1 ∧ ap t = -1 ∧ al t = 0) ∨
  (∃ s m, s < T ∧ m ≤ K ∧ (ak t = 15 ∨ ak t = 16 ∨ ak t = 17) ∧ ao t = nI s ∧ yo t = nI s ∧ yp t = ap t ∧ as t = lN m ∧
    ((al t = 0 ∧ ph s = 9 ∧ sr s = lN m ∧ (ak t = 15 → ∃ p, p < W ∧ ap t = nI p ∧ ∀ b, b < p → sh (s * 16 + b) ≠ 0 → wh b = nI s)) ∨
     (al t = 1 ∧ (ph s ≠ 9 ∨ sr s ≠ lN m))))
/-- serials -/
def mw_S (T K : Nat) (sr : Nat → Int64) : Prop := ∀ s, s < T → ∃ m, m ≤ K ∧ sr s = lN m
/-- what an aim must be when it is set -/
def mw_Ok (T W : Nat) (ph wh sh : Nat → Int32) (kind p : Int32) (s : Nat) : Prop := s < T ∧ ph s = 9 ∧ ((kind = 16 ∧ p = -1) ∨ ((kind = 15 ∨ kind = 17) ∧ ∃ a, a < W ∧ p = nI a ∧ ∀ b, b < a → sh (s * 16 + b) ≠ 0 → wh b = nI s))
section
variable {T W K : Nat} {xd yd ds ph ra sh lh se le sd ld wh hs ak ao ap al yo yp de dd : Nat → Int32} {sr as : Nat → Int64}
theorem mw_D_put {t a : Nat} (hW : W ≤ 16) (h : mw_D T W xd yd ds) (ht : t < T) (ha : a < W) (h0 : xd (t * 16 + a) = 0) : mw_D T W (upd xd (t * 16 + a) 1) (upd yd (t * 16 + a) 1) (upd ds t (nI (mw_cnt xd (t * 16) W + 1))) := by
  intro t' ht'
  refine ⟨fun a' ha' => ?_, ?_⟩
  · by_cases e : t' * 16 + a' = t * 16 + a
    · rw [e, pk_us, pk_us]; exact ⟨rfl, Or.inr rfl⟩
    · rw [pk_un e, pk_un e]; exact (h t' ht').1 a' ha'
  · by_cases e : t' = t
    · subst e
      rw [pk_us, mw_cnt_u h0 ha]
    · have e2 : mw_cnt (upd xd (t * 16 + a) 1) (t' * 16) W = mw_cnt xd (t' * 16) W := mw_cnt_c (fun j hj => pk_un (by omega))
      rw [pk_un e, e2]; exact (h t' ht').2
theorem mw_D_put2 {t a : Nat} (h : mw_D T W xd yd ds) (h0 : xd (t * 16 + a) ≠ 0) : mw_D T W xd (upd yd (t * 16 + a) 1) ds := by
  intro t' ht'
  refine ⟨fun a' ha' => ?_, (h t' ht').2⟩
  have q := (h t' ht').1 a' ha'
  by_cases e : t' * 16 + a' = t * 16 + a
  · rw [e] at q ⊢
    rw [pk_us]
    exact ⟨(q.2.resolve_left h0).symm, q.2⟩
  · rw [pk_un e]; exact q
theorem mw_D_drop {t : Nat} (hW : W ≤ 16) (h : mw_D T W xd yd ds) : mw_D T W (mw_row xd (fun _ => 0) (t * 16) W) (mw_row yd (fun _ => 0) (t * 16) 16) (upd ds t 0) := by
  intro t' ht'
  by_cases e : t' = t
  · subst e
    refine ⟨fun a ha => ?_, ?_⟩
    · rw [mw_row_i (by omega) (by omega), mw_row_i (by omega) (by omega)]; exact ⟨rfl, Or.inl rfl⟩
    · have e2 : mw_cnt (mw_row xd (fun _ => 0) (t' * 16) W) (t' * 16) W = 0 := mw_cnt_0 (fun a ha => mw_row_i (by omega) (by omega))
      rw [pk_us, e2]; exact nI_0.symm
  · refine ⟨fun a ha => ?_, ?_⟩
    · rw [mw_row_o (by omega), mw_row_o (by omega)]; exact (h t' ht').1 a ha
    · have e2 : mw_cnt (mw_row xd (fun _ => 0) (t * 16) W) (t' * 16) W = mw_cnt xd (t' * 16) W := mw_cnt_c (fun a ha => mw_row_o (by omega))
      rw [pk_un e, e2]; exact (h t' ht').2
theorem mw_L_la {t : Nat} (hW : W ≤ 16) (h : mw_L T W ph ra sh lh se le sd ld) (D : mw_D T W xd yd ds) : mw_L T W (upd ph t 9) ra (mw_row sh (fun j => vp_nar .boolean (xd j)) (t * 16) W) (mw_row lh (fun j => vp_nar .boolean (yd j)) (t * 16) 16) (mw_row se de (t * 16) W) (mw_row le de (t * 16) 16) (mw_row sd dd (t * 16) W) (mw_row ld dd (t * 16) 16) := by
  intro t' ht'
  by_cases e : t' = t
  · subst e
    refine Or.inl ⟨Or.inl pk_us, fun a ha => ?_⟩
    rw [mw_row_i (by omega) (by omega), mw_row_i (by omega) (by omega), mw_row_i (by omega) (by omega), mw_row_i (by omega) (by omega), mw_row_i (by omega) (by omega), mw_row_i (by omega) (by omega), ((D t' ht').1 a ha).1]
    exact ⟨rfl, rfl, rfl⟩
  · rw [pk_un e]
    have o : ∀ (f g : Nat → Int32) (a : Nat), a < W → mw_row f g (t * 16) W (t' * 16 + a) = f (t' * 16 + a) := fun f g a ha => mw_row_o (by omega)
    have o2 : ∀ (f g : Nat → Int32) (a : Nat), a < W → mw_row f g (t * 16) 16 (t' * 16 + a) = f (t' * 16 + a) := fun f g a ha => mw_row_o (by omega)
    rcases h t' ht' with ⟨q, q2⟩ | ⟨q, r, hr, q2, q3⟩ | q
    · refine Or.inl ⟨q, fun a ha => ?_⟩
      rw [o _ _ a ha, o _ _ a ha, o _ _ a ha, o2 _ _ a ha, o2 _ _ a ha, o2 _ _ a ha]; exact q2 a ha
    · exact Or.inr (Or.inl ⟨q, r, hr, q2, fun a ha => (o2 _ _ a ha).trans (q3 a ha)⟩)
    · exact Or.inr (Or.inr q)
theorem mw_L_rd {t r : Nat} (hW : W ≤ 16) (h : mw_L T W ph ra sh lh se le sd ld) (hr : r < W) : mw_L T W (upd ph t 8) (upd ra t (nI r)) sh (mw_row lh (fun j => if j = t * 16 + r then 1 else 0) (t * 16) 16) se le sd ld := by
  intro t' ht'
  by_cases e : t' = t
  · subst e
    refine Or.inr (Or.inl ⟨pk_us, r, hr, pk_us, fun a ha => ?_⟩)
    rw [mw_row_i (by omega) (by omega)]
    by_cases e2 : a = r
    · rw [e2, if_pos rfl, if_pos rfl]
    · rw [if_neg (by omega), if_neg e2]
  · rw [pk_un e, pk_un e]
    have o2 : ∀ (f g : Nat → Int32) (a : Nat), a < W → mw_row f g (t * 16) 16 (t' * 16 + a) = f (t' * 16 + a) := fun f g a ha => mw_row_o (by omega)
    rcases h t' ht' with ⟨q, q2⟩ | ⟨q, r, hr, q2, q3⟩ | q
    · refine Or.inl ⟨q, fun a ha => ?_⟩
      rw [o2 _ _ a ha]; exact q2 a ha
    · exact Or.inr (Or.inl ⟨q, r, hr, q2, fun a ha => (o2 _ _ a ha).trans (q3 a ha)⟩)
    · exact Or.inr (Or.inr q)
theorem mw_L_9 (h : mw_L T W ph ra sh lh se le sd ld) {s : Nat} (hs : s < T) (h9 : ph s = 9) : ∀ a, a < W → lh (s * 16 + a) = sh (s * 16 + a) ∧ le (s * 16 + a) = se (s * 16 + a) ∧ ld (s * 16 + a) = sd (s * 16 + a) := by
  rcases h s hs with ⟨_, q2⟩ | ⟨q, _⟩ | q
  · exact q2
  · rw [h9] at q; exact absurd q (by decide)
  · rw [h9] at q; exact absurd q (by decide)
theorem mw_L_dec {s : Nat} {d : Int32} (h : mw_L T W ph ra sh lh se le sd ld) (h9 : ph s = 9) (hd : d = 10 ∨ d = 11) : mw_L T W (upd ph s d) ra sh lh se le sd ld := by
  intro t ht
  by_cases e : t = s
  · subst e
    rw [pk_us]
    exact Or.inl ⟨Or.inr hd, mw_L_9 h ht h9⟩
  · rw [pk_un e]; exact h t ht
theorem mw_L_fin {s : Nat} (h : mw_L T W ph ra sh lh se le sd ld) : mw_L T W (upd ph s 5) ra sh lh se le sd ld := by
  intro t ht
  by_cases e : t = s
  · subst e
    exact Or.inr (Or.inr pk_us)
  · rw [pk_un e]; exact h t ht
theorem mw_H_ph {t : Nat} {x : Int32} (h : mw_H T W wh hs ph) (hp : ph t ≠ 9) : mw_H T W wh hs (upd ph t x) := by
  intro a ha
  refine ⟨(h a ha).1.imp id (fun q => ?_), (h a ha).2⟩
  obtain ⟨s, h1, h2, h3⟩ := q
  exact ⟨s, h1, h2, (pk_un (fun (e : s = t) => hp (e ▸ h3))).trans h3⟩
theorem mw_H_cl {s p : Nat} (hT : T ≤ 4) (hW : W ≤ 16) (h : mw_H T W wh hs ph) (hs' : s < T) (h9 : ph s = 9) (hp : p < W) (hm : wh p = -1) : mw_H T W (upd wh p (nI s)) (upd hs (s * 16 + p) 1) ph := by
  intro a ha
  by_cases e : a = p
  · subst e
    refine ⟨Or.inr ⟨s, hs', pk_us, h9⟩, fun t ht => ?_⟩
    rw [pk_us]
    by_cases e2 : t = s
    · subst e2
      rw [pk_us, if_pos rfl]
    · rw [pk_un (by omega), if_neg (mw_ne (by omega) (by omega) (fun q => e2 q.symm)), (h a ha).2 t ht, hm, if_neg (mw_nm' (a := t) (by omega))]
  · rw [pk_un e]
    refine ⟨(h a ha).1, fun t ht => ?_⟩
    rw [pk_un (by omega)]; exact (h a ha).2 t ht
theorem mw_H_dec {s : Nat} {d : Int32} (hT : T ≤ 4) (hW : W ≤ 16) (h : mw_H T W wh hs ph) (hs' : s < T) : mw_H T W (mw_rel wh s W) (mw_row hs (fun _ => 0) (s * 16) W) (upd ph s d) := by
  intro a ha
  by_cases e : wh a = nI s
  · rw [mw_rel_e ha e]
    refine ⟨Or.inl rfl, fun t ht => ?_⟩
    rw [if_neg (mw_nm' (a := t) (by omega))]
    by_cases e2 : t = s
    · subst e2
      exact mw_row_i (by omega) (by omega)
    · rw [mw_row_o (by omega), (h a ha).2 t ht, e, if_neg (mw_ne (by omega) (by omega) (fun q => e2 q.symm))]
  · rw [mw_rel_k e]
    refine ⟨(h a ha).1.imp id (fun q => ?_), fun t ht => ?_⟩
    · obtain ⟨s', h1, h2, h3⟩ := q
      exact ⟨s', h1, h2, (pk_un (fun (z : s' = s) => e (z ▸ h2))).trans h3⟩
    · by_cases e2 : t = s
      · subst e2
        rw [mw_row_i (by omega) (by omega), if_neg e]
      · rw [mw_row_o (by omega)]; exact (h a ha).2 t ht
theorem mw_P_row {t n : Nat} {g : Nat → Int32} (hT : T ≤ 4) (hW : W ≤ 16) (hn : n ≤ 16) (H : mw_H T W wh hs ph) (hp : ph t ≠ 9) (h : mw_P T W wh sh) : mw_P T W wh (mw_row sh g (t * 16) n) := by
  intro a s ha hs' hh b hb
  have e : s ≠ t := by
    rcases (H a ha).1 with q | ⟨s', h1, h2, h3⟩
    · exact absurd (hh.symm.trans q) (mw_nm (by omega))
    · have e2 : s' = s := mw_inj (by omega) (by omega) (h2.symm.trans hh)
      exact fun z => hp (by rw [← z, ← e2]; exact h3)
  rw [mw_row_o (by omega)]
  exact h a s ha hs' hh b hb
theorem mw_P_cl {s p : Nat} (hT : T ≤ 4) (h : mw_P T W wh sh) (hs' : s < T) (hm : wh p = -1) (hb : ∀ b, b < p → sh (s * 16 + b) ≠ 0 → wh b = nI s) : mw_P T W (upd wh p (nI s)) sh := by
  intro a s' ha hs2 hh b hba hn
  by_cases e : a = p
  · subst e
    rw [pk_us] at hh
    have e2 : s = s' := mw_inj (by omega) (by omega) hh
    subst e2
    rw [pk_un (by omega)]
    exact hb b hba hn
  · rw [pk_un e] at hh
    have q := h a s' ha hs2 hh b hba hn
    by_cases e2 : b = p
    · subst e2
      exact absurd (q.symm.trans hm) (mw_nm (by omega))
    · rw [pk_un e2]; exact q
theorem mw_P_dec {s : Nat} (hT : T ≤ 4) (h : mw_P T W wh sh) (hs' : s < T) : mw_P T W (mw_rel wh s W) sh := by
  intro a s' ha hs2 hh b hba hn
  by_cases e : wh a = nI s
  · rw [mw_rel_e ha e] at hh
    exact absurd hh.symm (mw_nm (by omega))
  · rw [mw_rel_k e] at hh
    have q := h a s' ha hs2 hh b hba hn
    rw [mw_rel_k (fun z => e (hh.trans (q.symm.trans z)))]
    exact q
/-- a holder's lowest entry that it does not hold lies beyond what it holds -/
theorem mw_P_low {a w : Nat} (h : mw_P T W wh sh) (ha : a < W) (hw : w < T) (hh : wh a = nI w) : a < mw_low sh wh W w := by
  obtain ⟨_, _, h3⟩ := mw_low_s sh wh W w
  refine Nat.lt_of_not_le fun q => ?_
  have z := h3 (by omega)
  by_cases e : mw_low sh wh W w = a
  · rw [e] at z; exact z.2 hh
  · exact z.2 (h a w ha hw hh _ (by omega) z.1)
theorem mw_A_ph {t : Nat} {x : Int32} (h : mw_A T W K ph wh sh ak ao ap al yo yp sr as) (hp : ph t ≠ 9) (hx : x ≠ 9) : mw_A T W K (upd ph t x) wh sh ak ao ap al yo yp sr as := by
  intro t' ht'
  rcases h t' ht' with q | ⟨s, m, hs, hm, hk, e1, e2, e3, e4, q⟩
  · exact Or.inl q
  · refine Or.inr ⟨s, m, hs, hm, hk, e1, e2, e3, e4, ?_⟩
    rcases q with ⟨a, b, c, d⟩ | ⟨a, b⟩
    · exact Or.inl ⟨a, (pk_un (fun (e : s = t) => hp (e ▸ b))).trans b, c, d⟩
    · refine Or.inr ⟨a, b.imp (fun b' => ?_) id⟩
      by_cases e : s = t
      · rw [e, pk_us]; exact hx
      · rw [pk_un e]; exact b'
theorem mw_A_la {t n : Nat} {g : Nat → Int32} (hW : W ≤ 16) (hn : n ≤ 16) (hK : K < 1000000) (h : mw_A T W K ph wh sh ak ao ap al yo yp sr as) (hp : ph t ≠ 9) : mw_A T W (K + 1) (upd ph t 9) wh (mw_row sh g (t * 16) n) ak ao ap al yo yp (vp_updL sr t (lN (K + 1))) as := by
  intro t' ht'
  rcases h t' ht' with q | ⟨s, m, hs, hm, hk, e1, e2, e3, e4, q⟩
  · exact Or.inl q
  · refine Or.inr ⟨s, m, hs, by omega, hk, e1, e2, e3, e4, ?_⟩
    rcases q with ⟨a, b, c, d⟩ | ⟨a, b⟩
    · have e : s ≠ t := fun e => hp (e ▸ b)
      refine Or.inl ⟨a, (pk_un e).trans b, (pk_uLn e).trans c, fun z => ?_⟩
      obtain ⟨p, p1, p2, p3⟩ := d z
      refine ⟨p, p1, p2, fun b hb => ?_⟩
      rw [mw_row_o (by omega)]
      exact p3 b hb
    · refine Or.inr ⟨a, ?_⟩
      by_cases e : s = t
      · refine Or.inr ?_
        rw [e, pk_uLs]
        intro z
        have := (lN_eq (by omega) (by omega)).mp z
        omega
      · rw [pk_un e, pk_uLn e]; exact b
theorem mw_A_cl {s p : Nat} (hT : T ≤ 4) (h : mw_A T W K ph wh sh ak ao ap al yo yp sr as) (hm : wh p = -1) : mw_A T W K ph (upd wh p (nI s)) sh ak ao ap al yo yp sr as := by
  intro t' ht'
  rcases h t' ht' with q | ⟨s', m, hs, hm', hk, e1, e2, e3, e4, q⟩
  · exact Or.inl q
  · refine Or.inr ⟨s', m, hs, hm', hk, e1, e2, e3, e4, ?_⟩
    rcases q with ⟨a, b, c, d⟩ | q
    · refine Or.inl ⟨a, b, c, fun z => ?_⟩
      obtain ⟨p', p1, p2, p3⟩ := d z
      refine ⟨p', p1, p2, fun b hb hn => ?_⟩
      have y := p3 b hb hn
      by_cases e : b = p
      · subst e
        exact absurd (y.symm.trans hm) (mw_nm (by omega))
      · rw [pk_un e]; exact y
    · exact Or.inr q
theorem mw_A_dec {s : Nat} {d : Int32} (hT : T ≤ 4) (h : mw_A T W K ph wh sh ak ao ap al yo yp sr as) (hs' : s < T) (hd : d ≠ 9) : mw_A T W K (upd ph s d) (mw_rel wh s W) sh ak ao ap (mw_mrk al ao s T) yo yp sr as := by
  intro t' ht'
  rcases h t' ht' with ⟨q1, q2, q3, q4⟩ | ⟨s', m, hs, hm', hk, e1, e2, e3, e4, q⟩
  · refine Or.inl ⟨q1, q2, q3, ?_⟩
    rw [mw_mrk_k (fun z => mw_nm (a := s) (by omega) (z.symm.trans q2))]; exact q4
  · refine Or.inr ⟨s', m, hs, hm', hk, e1, e2, e3, e4, ?_⟩
    by_cases e : s' = s
    · subst e
      refine Or.inr ⟨mw_mrk_e ht' e1, Or.inl ?_⟩
      rw [pk_us]; exact hd
    · have ne : nI s' ≠ nI s := mw_ne (by omega) (by omega) e
      rw [mw_mrk_k (fun z => ne (e1.symm.trans z)), pk_un e]
      rcases q with ⟨a, b, c, d⟩ | q
      · refine Or.inl ⟨a, b, c, fun z => ?_⟩
        obtain ⟨p', p1, p2, p3⟩ := d z
        refine ⟨p', p1, p2, fun b hb hn => ?_⟩
        have y := p3 b hb hn
        rw [mw_rel_k (fun z => ne (y.symm.trans z))]; exact y
      · exact Or.inr q
theorem mw_A_fin {t : Nat} (h : mw_A T W K ph wh sh ak ao ap al yo yp sr as) : mw_A T W K ph wh sh (upd ak t 14) (upd ao t (-1)) (upd ap t (-1)) (upd al t 0) yo yp sr as := by
  intro t' ht'
  by_cases e : t' = t
  · subst e
    exact Or.inl ⟨pk_us, pk_us, pk_us, pk_us⟩
  · simp only [pk_un e]
    exact h t' ht'
theorem mw_A_set {t s : Nat} {kind p : Int32} (S : mw_S T K sr) (h : mw_A T W K ph wh sh ak ao ap al yo yp sr as) (ok : mw_Ok T W ph wh sh kind p s) : mw_A T W K ph wh sh (upd ak t kind) (upd ao t (nI s)) (upd ap t p) (upd al t 0) (upd yo t (nI s)) (upd yp t p) sr (vp_updL as t (sr s)) := by
  intro t' ht'
  by_cases e : t' = t
  · subst e
    obtain ⟨o1, o2, o3⟩ := ok
    obtain ⟨m, hm, hsr⟩ := S s o1
    refine Or.inr ⟨s, m, o1, hm, ?_, pk_us, pk_us, pk_us.trans pk_us.symm, pk_uLs.trans hsr, Or.inl ⟨pk_us, o2, hsr, fun z => ?_⟩⟩
    · rw [pk_us]
      rcases o3 with ⟨k1, _⟩ | ⟨k1 | k1, _⟩
      · exact Or.inr (Or.inl k1)
      · exact Or.inl k1
      · exact Or.inr (Or.inr k1)
    · rw [pk_us] at z
      rw [pk_us]
      rcases o3 with ⟨k1, _⟩ | ⟨_, q⟩
      · rw [k1] at z; exact absurd z (by decide)
      · exact q
  · simp only [pk_un e, pk_uLn e]
    exact h t' ht'
theorem mw_S_la {t : Nat} (S : mw_S T K sr) : mw_S T (K + 1) (vp_updL sr t (lN (K + 1))) := by
  intro s hs
  by_cases e : s = t
  · subst e
    exact ⟨K + 1, Nat.le_refl _, pk_uLs⟩
  · obtain ⟨m, h1, h2⟩ := S s hs
    exact ⟨m, by omega, (pk_uLn e).trans h2⟩
end
