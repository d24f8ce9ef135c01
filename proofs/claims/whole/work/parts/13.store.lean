/-! signal: what it stores -/
def nb_up (f : Nat → Nat) (c k : Nat) : Nat → Nat := fun j => if j = c then k else f j
theorem nb_ups {f : Nat → Nat} {c k : Nat} : nb_up f c k c = k := if_pos rfl
theorem nb_upn {f : Nat → Nat} {c k j : Nat} (h : j ≠ c) : nb_up f c k j = f j := if_neg h
theorem nb_upu (f : Nat → Nat) (c k l : Nat) : nb_up (nb_up f c k) c l = nb_up f c l := by
  funext j
  by_cases e : j = c
  · subst e; rw [nb_ups, nb_ups]
  · rw [nb_upn e, nb_upn e, nb_upn e]
theorem nb_upI {F : Nat → Int32} {f : Nat → Nat} {c k : Nat} (h : ∀ j, F j = nI (f j)) : ∀ j, upd F c (nI k) j = nI (nb_up f c k j) := by
  intro j
  by_cases e : j = c
  · subst e; rw [pk_us, nb_ups]
  · rw [pk_un e, nb_upn e]; exact h j
theorem nb_up0 {F : Nat → Int32} {f : Nat → Nat} {c k : Nat} (h : ∀ j, F j = nI (f j)) (e : f c = k) : ∀ j, F j = nI (nb_up f c k j) := by
  intro j
  by_cases q : j = c
  · subst q; rw [nb_ups, ← e]; exact h j
  · rw [nb_upn q]; exact h j
def nb_oc (k : Nat) : Nat := if k < 3 then 0 else if k = 12 then 3 else if 4 ≤ k ∧ k ≤ 15 then 2 else 1
def nb_d1 (k a : Nat) : Nat := if 3 ≤ k then nb_mx 0 (a + 1) else 0
def nb_d2 (k m b : Nat) : Nat := if 4 ≤ k ∧ k ≤ 15 then nb_mx m (b + 1) else m
def nb_d3 (k m d : Nat) : Nat := if k = 12 then nb_mx m (d + 1) else m
theorem nb_mxs (a b : Nat) : nb_mx (a + 1) (b + 1) = nb_mx a b + 1 := by
  unfold nb_mx
  by_cases h : b ≤ a
  · rw [if_pos h, if_pos (by omega)]
  · rw [if_neg h, if_neg (by omega)]
theorem nb_d123 (k a b d : Nat) : nb_d3 k (nb_d2 k (nb_d1 k a) b) d = nb_dv k a b d := by
  unfold nb_d3 nb_d2 nb_d1 nb_dv
  by_cases h3 : k < 3
  · rw [if_neg (by omega), if_neg (by omega), if_neg (by omega), if_pos h3]
  · rw [if_neg h3, if_pos (show 3 ≤ k by omega), show nb_mx 0 (a + 1) = a + 1 from if_neg (by omega)]
    by_cases h4 : 4 ≤ k ∧ k ≤ 15
    · rw [if_pos h4, if_pos h4, nb_mxs]
      by_cases h12 : k = 12
      · rw [if_pos h12, if_pos h12, nb_mxs]
      · rw [if_neg h12, if_neg h12]
    · rw [if_neg h4, if_neg h4, if_neg (by omega), if_neg (by omega)]
theorem nb_dv_le {k a b d n : Nat} (ha : 3 ≤ k → a < n) (hb : 3 ≤ k → b < n) (hd : 3 ≤ k → d < n) : nb_dv k a b d ≤ n := by
  unfold nb_dv
  by_cases h3 : k < 3
  · rw [if_pos h3]; exact Nat.zero_le _
  · rw [if_neg h3]
    have h1 := ha (by omega)
    have h2 := hb (by omega)
    have h4 := hd (by omega)
    have m1 : (if 4 ≤ k ∧ k ≤ 15 then nb_mx a b else a) ≤ n - 1 := by
      by_cases q : 4 ≤ k ∧ k ≤ 15
      · rw [if_pos q]; exact nb_mx_le (by omega) (by omega)
      · rw [if_neg q]; omega
    have m2 : (if k = 12 then nb_mx (if 4 ≤ k ∧ k ≤ 15 then nb_mx a b else a) d else (if 4 ≤ k ∧ k ≤ 15 then nb_mx a b else a)) ≤ n - 1 := by
      by_cases q : k = 12
      · rw [if_pos q]; exact nb_mx_le m1 (by omega)
      · rw [if_neg q]; exact m1
    omega
theorem nb_wf_lo {k w x y z : Nat} (h : k < 3) : nb_wf k w x y z := by
  match k, h with
  | 0, _ => exact trivial
  | 1, _ => exact trivial
  | 2, _ => exact trivial
/-- what a fitting row of operands says, kind by kind -/
def nb_ops (c : Nat) (k : Nat) (x y z : Int32) (a b d w : Nat) : Prop :=
  (3 ≤ k → a < c ∧ x = nI a) ∧ (k < 3 → a = 0) ∧ (4 ≤ k ∧ k ≤ 15 → b < c ∧ y = nI b) ∧ (¬ (4 ≤ k ∧ k ≤ 15) → b = 0) ∧ (k = 12 → d < c ∧ z = nI d) ∧ (k ≠ 12 → d = 0) ∧ 1 ≤ w ∧ (k = 1 ∨ k = 2 → nb_R w y)
section
variable {c : Nat} {cs sw pp pd pe : Int32} {K W ox oy oz nums rch D nx en fo H nt mem nm vals tr ex ey ez nty va td mt : Nat → Int32} {kd wd xo yo zo dp : Nat → Nat}
theorem nb_fq_ops {k : Nat} (hk : k ≤ 18) (h1 : ∀ j, j < c → 1 ≤ wd j) {x y z : Int32} {a b d w : Nat} (q : nb_fq c wd k x y z a b d w) : nb_ops c k x y z a b d w ∧ nb_wf k w (wd a) (wd b) (wd d) := by
  match k, hk, q with
  | 0, _, q =>
    obtain ⟨⟨e, w1, w7⟩, ea, eb, ed⟩ := q
    exact ⟨⟨fun h => absurd h (by decide), fun _ => ea, fun h => absurd h (by decide), fun _ => eb, fun h => absurd h (by decide), fun _ => ed, w1, fun h => absurd h (by decide)⟩, trivial⟩
  | 1, _, q =>
    obtain ⟨⟨e, w1, w7, r⟩, ea, eb, ed⟩ := q
    exact ⟨⟨fun h => absurd h (by decide), fun _ => ea, fun h => absurd h (by decide), fun _ => eb, fun h => absurd h (by decide), fun _ => ed, w1, fun _ => r⟩, trivial⟩
  | 2, _, q =>
    obtain ⟨⟨e, w1, w7, r⟩, ea, eb, ed⟩ := q
    exact ⟨⟨fun h => absurd h (by decide), fun _ => ea, fun h => absurd h (by decide), fun _ => eb, fun h => absurd h (by decide), fun _ => ed, w1, fun _ => r⟩, trivial⟩
  | 3, _, q =>
    obtain ⟨⟨ha, e⟩, ew, eb, ed⟩ := q
    exact ⟨⟨fun _ => ⟨ha, e⟩, fun h => absurd h (by decide), fun h => absurd h (by decide), fun _ => eb, fun h => absurd h (by decide), fun _ => ed, by have := h1 a ha; omega, fun h => absurd h (by decide)⟩, ew.symm⟩
  | 4, _, q =>
    obtain ⟨⟨ha, hb, e, e2, e3⟩, ew, ed⟩ := q
    exact ⟨⟨fun _ => ⟨ha, e⟩, fun h => absurd h (by decide), fun _ => ⟨hb, e2⟩, fun h => absurd h (by decide), fun h => absurd h (by decide), fun _ => ed, by have := h1 a ha; omega, fun h => absurd h (by decide)⟩, ⟨ew.symm, (ew.trans e3).symm⟩⟩
  | 5, _, q =>
    obtain ⟨⟨ha, hb, e, e2, e3⟩, ew, ed⟩ := q
    exact ⟨⟨fun _ => ⟨ha, e⟩, fun h => absurd h (by decide), fun _ => ⟨hb, e2⟩, fun h => absurd h (by decide), fun h => absurd h (by decide), fun _ => ed, by have := h1 a ha; omega, fun h => absurd h (by decide)⟩, ⟨ew.symm, (ew.trans e3).symm⟩⟩
  | 6, _, q =>
    obtain ⟨⟨ha, hb, e, e2, e3⟩, ew, ed⟩ := q
    exact ⟨⟨fun _ => ⟨ha, e⟩, fun h => absurd h (by decide), fun _ => ⟨hb, e2⟩, fun h => absurd h (by decide), fun h => absurd h (by decide), fun _ => ed, by have := h1 a ha; omega, fun h => absurd h (by decide)⟩, ⟨ew.symm, (ew.trans e3).symm⟩⟩
  | 7, _, q =>
    obtain ⟨⟨ha, hb, e, e2, e3⟩, ew, ed⟩ := q
    exact ⟨⟨fun _ => ⟨ha, e⟩, fun h => absurd h (by decide), fun _ => ⟨hb, e2⟩, fun h => absurd h (by decide), fun h => absurd h (by decide), fun _ => ed, by have := h1 a ha; omega, fun h => absurd h (by decide)⟩, ⟨ew.symm, (ew.trans e3).symm⟩⟩
  | 8, _, q =>
    obtain ⟨⟨ha, hb, e, e2, e3⟩, ew, ed⟩ := q
    exact ⟨⟨fun _ => ⟨ha, e⟩, fun h => absurd h (by decide), fun _ => ⟨hb, e2⟩, fun h => absurd h (by decide), fun h => absurd h (by decide), fun _ => ed, by have := h1 a ha; omega, fun h => absurd h (by decide)⟩, ⟨ew.symm, (ew.trans e3).symm⟩⟩
  | 9, _, q =>
    obtain ⟨⟨ha, hb, e, e2, e3, _⟩, ew, ed⟩ := q
    exact ⟨⟨fun _ => ⟨ha, e⟩, fun h => absurd h (by decide), fun _ => ⟨hb, e2⟩, fun h => absurd h (by decide), fun h => absurd h (by decide), fun _ => ed, by have := h1 a ha; omega, fun h => absurd h (by decide)⟩, ⟨ew.symm, (ew.trans e3).symm⟩⟩
  | 10, _, q =>
    obtain ⟨⟨ha, hb, e, e2, e3⟩, ew, ed⟩ := q
    exact ⟨⟨fun _ => ⟨ha, e⟩, fun h => absurd h (by decide), fun _ => ⟨hb, e2⟩, fun h => absurd h (by decide), fun h => absurd h (by decide), fun _ => ed, by omega, fun h => absurd h (by decide)⟩, ew⟩
  | 11, _, q =>
    obtain ⟨⟨ha, hb, e, e2, e3⟩, ew, ed⟩ := q
    exact ⟨⟨fun _ => ⟨ha, e⟩, fun h => absurd h (by decide), fun _ => ⟨hb, e2⟩, fun h => absurd h (by decide), fun h => absurd h (by decide), fun _ => ed, by omega, fun h => absurd h (by decide)⟩, ew⟩
  | 12, _, q =>
    obtain ⟨⟨ha, e, _⟩, ⟨hb, hd, e2, e4, e3⟩, ew⟩ := q
    exact ⟨⟨fun _ => ⟨ha, e⟩, fun h => absurd h (by decide), fun _ => ⟨hb, e2⟩, fun h => absurd h (by decide), fun _ => ⟨hd, e4⟩, fun h => absurd h (by decide), by have := h1 b hb; omega, fun h => absurd h (by decide)⟩, ⟨ew.symm, (ew.trans e3).symm⟩⟩
  | 13, _, q =>
    obtain ⟨⟨ha, e⟩, ⟨hb, e2, e3⟩, ew, ed⟩ := q
    exact ⟨⟨fun _ => ⟨ha, e⟩, fun h => absurd h (by decide), fun _ => ⟨hb, e2⟩, fun h => absurd h (by decide), fun h => absurd h (by decide), fun _ => ed, by have := h1 a ha; omega, fun h => absurd h (by decide)⟩, ⟨ew.symm, e3⟩⟩
  | 14, _, q =>
    obtain ⟨⟨ha, e⟩, ⟨hb, e2, e3⟩, ew, ed⟩ := q
    exact ⟨⟨fun _ => ⟨ha, e⟩, fun h => absurd h (by decide), fun _ => ⟨hb, e2⟩, fun h => absurd h (by decide), fun h => absurd h (by decide), fun _ => ed, by have := h1 a ha; omega, fun h => absurd h (by decide)⟩, ⟨ew.symm, e3⟩⟩
  | 15, _, q =>
    obtain ⟨⟨ha, e⟩, ⟨hb, e2⟩, ew, ed⟩ := q
    exact ⟨⟨fun _ => ⟨ha, e⟩, fun h => absurd h (by decide), fun _ => ⟨hb, e2⟩, fun h => absurd h (by decide), fun h => absurd h (by decide), fun _ => ed, by have := h1 a ha; omega, fun h => absurd h (by decide)⟩, ew⟩
  | 16, _, q =>
    obtain ⟨⟨ha, e⟩, ⟨s, _, _, w1, _⟩, eb, ed⟩ := q
    exact ⟨⟨fun _ => ⟨ha, e⟩, fun h => absurd h (by decide), fun h => absurd h (by decide), fun _ => eb, fun h => absurd h (by decide), fun _ => ed, w1, fun h => absurd h (by decide)⟩, trivial⟩
  | 17, _, q =>
    obtain ⟨⟨ha, e⟩, ew, eb, ed⟩ := q
    exact ⟨⟨fun _ => ⟨ha, e⟩, fun h => absurd h (by decide), fun h => absurd h (by decide), fun _ => eb, fun h => absurd h (by decide), fun _ => ed, by omega, fun h => absurd h (by decide)⟩, ew⟩
  | 18, _, q =>
    obtain ⟨⟨ha, e, _⟩, ew, eb, ed⟩ := q
    exact ⟨⟨fun _ => ⟨ha, e⟩, fun h => absurd h (by decide), fun h => absurd h (by decide), fun _ => eb, fun h => absurd h (by decide), fun _ => ed, by omega, fun h => absurd h (by decide)⟩, ew⟩
  | n + 19, hk, _ => exact absurd hk (by omega)
theorem nx_oc (post : Int32 → Prop) {k : Nat} (hk : k ≤ 18) (h : post (nI (nb_oc k))) : wpX_operandCount post (nI k) := by
  match k, hk, h with
  | 0, _, h =>
    rw [show nb_oc 0 = 0 by decide] at h
    exact br_f (by decide) (br_f (by decide) (br_t rfl (h)))
  | 1, _, h =>
    rw [show nb_oc 1 = 0 by decide] at h
    exact br_f (by decide) (br_f (by decide) (br_f (by decide) (br_t rfl (h))))
  | 2, _, h =>
    rw [show nb_oc 2 = 0 by decide] at h
    exact br_f (by decide) (br_f (by decide) (br_f (by decide) (br_f (by decide) (br_t rfl (h)))))
  | 3, _, h =>
    rw [show nb_oc 3 = 1 by decide] at h
    exact br_f (by decide) (br_f (by decide) (br_f (by decide) (br_f (by decide) (br_f (by decide) (br_t rfl (h))))))
  | 4, _, h =>
    rw [show nb_oc 4 = 2 by decide] at h
    exact br_f (by decide) (br_f (by decide) (br_f (by decide) (br_f (by decide) (br_f (by decide) (br_f (by decide) (br_t rfl (h)))))))
  | 5, _, h =>
    rw [show nb_oc 5 = 2 by decide] at h
    exact br_f (by decide) (br_f (by decide) (br_f (by decide) (br_f (by decide) (br_f (by decide) (br_f (by decide) (br_f (by decide) (br_t rfl (h))))))))
  | 6, _, h =>
    rw [show nb_oc 6 = 2 by decide] at h
    exact br_f (by decide) (br_f (by decide) (br_f (by decide) (br_f (by decide) (br_f (by decide) (br_f (by decide) (br_f (by decide) (br_f (by decide) (br_t rfl (h)))))))))
  | 7, _, h =>
    rw [show nb_oc 7 = 2 by decide] at h
    exact br_f (by decide) (br_f (by decide) (br_f (by decide) (br_f (by decide) (br_f (by decide) (br_f (by decide) (br_f (by decide) (br_f (by decide) (br_f (by decide) (br_t rfl (h))))))))))
  | 8, _, h =>
    rw [show nb_oc 8 = 2 by decide] at h
    exact br_f (by decide) (br_f (by decide) (br_f (by decide) (br_f (by decide) (br_f (by decide) (br_f (by decide) (br_f (by decide) (br_f (by decide) (br_f (by decide) (br_f (by decide) (br_t rfl (h)))))))))))
  | 9, _, h =>
    rw [show nb_oc 9 = 2 by decide] at h
    exact br_f (by decide) (br_f (by decide) (br_f (by decide) (br_f (by decide) (br_f (by decide) (br_f (by decide) (br_f (by decide) (br_f (by decide) (br_f (by decide) (br_f (by decide) (br_f (by decide) (br_t rfl (h))))))))))))
  | 10, _, h =>
    rw [show nb_oc 10 = 2 by decide] at h
    exact br_f (by decide) (br_f (by decide) (br_f (by decide) (br_f (by decide) (br_f (by decide) (br_f (by decide) (br_f (by decide) (br_f (by decide) (br_f (by decide) (br_f (by decide) (br_f (by decide) (br_f (by decide) (br_t rfl (h)))))))))))))
  | 11, _, h =>
    rw [show nb_oc 11 = 2 by decide] at h
    exact br_f (by decide) (br_f (by decide) (br_f (by decide) (br_f (by decide) (br_f (by decide) (br_f (by decide) (br_f (by decide) (br_f (by decide) (br_f (by decide) (br_f (by decide) (br_f (by decide) (br_f (by decide) (br_f (by decide) (br_t rfl (h))))))))))))))
  | 12, _, h =>
    rw [show nb_oc 12 = 3 by decide] at h
    exact br_f (by decide) (br_f (by decide) (br_f (by decide) (br_f (by decide) (br_f (by decide) (br_f (by decide) (br_f (by decide) (br_f (by decide) (br_f (by decide) (br_f (by decide) (br_f (by decide) (br_f (by decide) (br_f (by decide) (br_f (by decide) (br_t rfl (h)))))))))))))))
  | 13, _, h =>
    rw [show nb_oc 13 = 2 by decide] at h
    exact br_f (by decide) (br_f (by decide) (br_f (by decide) (br_f (by decide) (br_f (by decide) (br_f (by decide) (br_f (by decide) (br_f (by decide) (br_f (by decide) (br_f (by decide) (br_f (by decide) (br_f (by decide) (br_f (by decide) (br_f (by decide) (br_f (by decide) (br_t rfl (h))))))))))))))))
  | 14, _, h =>
    rw [show nb_oc 14 = 2 by decide] at h
    exact br_f (by decide) (br_f (by decide) (br_f (by decide) (br_f (by decide) (br_f (by decide) (br_f (by decide) (br_f (by decide) (br_f (by decide) (br_f (by decide) (br_f (by decide) (br_f (by decide) (br_f (by decide) (br_f (by decide) (br_f (by decide) (br_f (by decide) (br_f (by decide) (br_t rfl (h)))))))))))))))))
  | 15, _, h =>
    rw [show nb_oc 15 = 2 by decide] at h
    exact br_f (by decide) (br_f (by decide) (br_f (by decide) (br_f (by decide) (br_f (by decide) (br_f (by decide) (br_f (by decide) (br_f (by decide) (br_f (by decide) (br_f (by decide) (br_f (by decide) (br_f (by decide) (br_f (by decide) (br_f (by decide) (br_f (by decide) (br_f (by decide) (br_f (by decide) (br_t rfl (h))))))))))))))))))
  | 16, _, h =>
    rw [show nb_oc 16 = 1 by decide] at h
    exact br_f (by decide) (br_f (by decide) (br_f (by decide) (br_f (by decide) (br_f (by decide) (br_f (by decide) (br_f (by decide) (br_f (by decide) (br_f (by decide) (br_f (by decide) (br_f (by decide) (br_f (by decide) (br_f (by decide) (br_f (by decide) (br_f (by decide) (br_f (by decide) (br_f (by decide) (br_f (by decide) (br_t rfl (h)))))))))))))))))))
  | 17, _, h =>
    rw [show nb_oc 17 = 1 by decide] at h
    exact br_f (by decide) (br_f (by decide) (br_f (by decide) (br_f (by decide) (br_f (by decide) (br_f (by decide) (br_f (by decide) (br_f (by decide) (br_f (by decide) (br_f (by decide) (br_f (by decide) (br_f (by decide) (br_f (by decide) (br_f (by decide) (br_f (by decide) (br_f (by decide) (br_f (by decide) (br_f (by decide) (br_f (by decide) (br_t rfl (h))))))))))))))))))))
  | 18, _, h =>
    rw [show nb_oc 18 = 1 by decide] at h
    exact br_f (by decide) (br_f (by decide) (br_f (by decide) (br_f (by decide) (br_f (by decide) (br_f (by decide) (br_f (by decide) (br_f (by decide) (br_f (by decide) (br_f (by decide) (br_f (by decide) (br_f (by decide) (br_f (by decide) (br_f (by decide) (br_f (by decide) (br_f (by decide) (br_f (by decide) (br_f (by decide) (br_f (by decide) (br_f (by decide) (br_t rfl (h)))))))))))))))))))))
  | n + 19, hk, _ => exact absurd hk (by omega)
theorem nx_sb (post : SX → Prop) (hc : c < 24) (hD : ∀ j, D j = nI (dp j)) {a : Nat} (ha : a < c) (ba : dp a < 100) (bc : dp c < 100)
    (hp : ∀ D', (∀ j, D' j = nI (nb_up dp c (nb_mx (dp c) (dp a + 1)) j)) → post ((nI c), cs, sw, pp, pd, pe, K, W, ox, oy, oz, nums, (upd rch c (rch c ||| rch a)), D', nx, en, fo, H, nt, mem, nm, vals, tr)) : wpX_standBehind post ((nI c), cs, sw, pp, pd, pe, K, W, ox, oy, oz, nums, rch, D, nx, en, fo, H, nt, mem, nm, vals, tr) (nI c) (nI a) := by
  have x1 : vp_in (nI c) 24 := vp_in_nI (by omega) (by omega)
  have x2 : (nI c).toNatClampNeg = c := nI_clamp (by omega)
  have y1 : vp_in (nI a) 24 := vp_in_nI (by omega) (by omega)
  have y2 : (nI a).toNatClampNeg = a := nI_clamp (by omega)
  unfold wpX_standBehind
  refine ⟨x1, y1, x1, ?_⟩
  rw [x2, y2]
  refine nm_e ⟨x1, y1, ?_⟩
  rw [hD a, hD c, nI_1 (dp a)]
  by_cases q : dp a + 1 ≤ dp c
  · refine br_t (nI_le q (by omega)) (hp D ?_)
    rw [show nb_mx (dp c) (dp a + 1) = dp c from if_pos q]
    exact nb_up0 hD rfl
  · refine br_f (fun w => q ((nI_leI (by omega) (by omega)).mp w)) ⟨y1, x1, nm_e (hp _ ?_)⟩
    rw [show nb_mx (dp c) (dp a + 1) = dp a + 1 from if_neg q]
    exact nb_upI hD
theorem nx_g57 (post : SX → Prop) (hc : c < 24) (hz : ∀ j, oz j = nI (zo j)) (z0 : zo c = 0) (hD : ∀ j, D j = nI (dp j)) (bd : ∀ j, j ≤ c → dp j < 100) {k d : Nat} {z : Int32} (od : k = 12 → d < c ∧ z = nI d) (nd : k ≠ 12 → d = 0)
    (hp : ∀ oz' rch' D', (∀ j, oz' j = nI (nb_up zo c d j)) → (∀ j, j ≠ c → rch' j = rch j) → (∀ i, bt (rch' c) i = true ↔ (bt (rch c) i = true ∨ (k = 12 ∧ bt (rch d) i = true))) → (∀ j, D' j = nI (nb_up dp c (nb_d3 k (dp c) (dp d)) j)) → post ((nI c), cs, sw, pp, pd, pe, K, W, ox, oy, oz', nums, rch', D', nx, en, fo, H, nt, mem, nm, vals, tr)) :
    wX_giveOperands_57 post (nI c) z (nI (nb_oc k)) (nI c) cs sw pp pd pe K W ox oy oz nums rch D nx en fo H nt mem nm vals tr := by
  have x1 : vp_in (nI c) 24 := vp_in_nI (by omega) (by omega)
  have x2 : (nI c).toNatClampNeg = c := nI_clamp (by omega)
  by_cases g : k = 12
  · obtain ⟨hd, rfl⟩ := od g
    have e : nb_oc k = 3 := by rw [g]; decide
    rw [e]
    refine br_f (by decide) ⟨x1, nm_e ?_⟩
    rw [x2]
    refine nx_sb _ hc hD hd (bd d (by omega)) (bd c (by omega)) (fun D' hD' => hp _ _ D' (nb_upI hz) (fun j hj => pk_un hj) (fun i => ?_) ?_)
    · rw [pk_us, b_or, Bool.or_eq_true]
      exact ⟨fun h => h.elim Or.inl (fun h => Or.inr ⟨g, h⟩), fun h => h.elim Or.inl (fun h => Or.inr h.2)⟩
    · rw [nb_d3, if_pos g]; exact hD'
  · have e : nb_oc k ≤ 2 := by
      unfold nb_oc
      by_cases a : k < 3
      · rw [if_pos a]; omega
      · rw [if_neg a, if_neg g]
        by_cases b : 4 ≤ k ∧ k ≤ 15
        · rw [if_pos b]; omega
        · rw [if_neg b]; omega
    refine br_t (nI_le (b := 2) e (by omega)) (hp oz rch D (nb_up0 hz (by rw [nd g, z0])) (fun _ _ => rfl) (fun i => ⟨Or.inl, fun h => h.elim id (fun h => absurd h.1 g)⟩) ?_)
    rw [nb_d3, if_neg g]
    exact nb_up0 hD rfl
theorem nx_g38 (post : SX → Prop) (hc : c < 24) (hy : ∀ j, oy j = nI (yo j)) (y0 : yo c = 0) (hz : ∀ j, oz j = nI (zo j)) (z0 : zo c = 0) (hD : ∀ j, D j = nI (dp j)) (bd : ∀ j, j ≤ c → dp j < 99) {k b d : Nat} {y z : Int32}
    (ob : 4 ≤ k ∧ k ≤ 15 → b < c ∧ y = nI b) (nb : ¬ (4 ≤ k ∧ k ≤ 15) → b = 0) (od : k = 12 → d < c ∧ z = nI d) (nd : k ≠ 12 → d = 0)
    (hp : ∀ oy' oz' rch' D', (∀ j, oy' j = nI (nb_up yo c b j)) → (∀ j, oz' j = nI (nb_up zo c d j)) → (∀ j, j ≠ c → rch' j = rch j)
      → (∀ i, bt (rch' c) i = true ↔ (bt (rch c) i = true ∨ ((4 ≤ k ∧ k ≤ 15) ∧ bt (rch b) i = true) ∨ (k = 12 ∧ bt (rch d) i = true)))
      → (∀ j, D' j = nI (nb_up dp c (nb_d3 k (nb_d2 k (dp c) (dp b)) (dp d)) j)) → post ((nI c), cs, sw, pp, pd, pe, K, W, ox, oy', oz', nums, rch', D', nx, en, fo, H, nt, mem, nm, vals, tr)) :
    wX_giveOperands_38 post (nI c) y z (nI (nb_oc k)) (nI c) cs sw pp pd pe K W ox oy oz nums rch D nx en fo H nt mem nm vals tr := by
  have x1 : vp_in (nI c) 24 := vp_in_nI (by omega) (by omega)
  have x2 : (nI c).toNatClampNeg = c := nI_clamp (by omega)
  by_cases g : 4 ≤ k ∧ k ≤ 15
  · obtain ⟨hb, rfl⟩ := ob g
    have e : 1 < nb_oc k ∧ nb_oc k < 100 := by
      unfold nb_oc
      rw [if_neg (by omega)]
      by_cases a : k = 12
      · rw [if_pos a]; omega
      · rw [if_neg a, if_pos g]; omega
    refine br_f (fun w => absurd ((nI_leI (b := 1) (by omega) (by omega)).mp w) (by omega)) ⟨x1, nm_e ?_⟩
    rw [x2]
    have bb := bd b (by omega)
    have bc := bd c (by omega)
    refine nx_sb _ hc hD hb (by omega) (by omega) (fun D' hD' => ?_)
    refine nx_g57 _ hc hz z0 hD' (fun j hj => ?_) od nd (fun oz' rch' D'' s1 s2 s3 s4 => hp _ oz' rch' D'' (nb_upI hy) s1 (fun j hj => (s2 j hj).trans (pk_un hj)) (fun i => ?_) (fun j => ?_))
    · by_cases q : j = c
      · subst q; rw [nb_ups]; exact Nat.lt_of_le_of_lt (nb_mx_le (n := 99) (by omega) (by omega)) (by omega)
      · rw [nb_upn q]; have := bd j hj; omega
    · rw [s3 i, pk_us, b_or, Bool.or_eq_true]
      constructor
      · rintro ((h | h) | ⟨h12, h⟩)
        · exact Or.inl h
        · exact Or.inr (Or.inl ⟨g, h⟩)
        · have := od h12
          rw [pk_un (by omega)] at h
          exact Or.inr (Or.inr ⟨h12, h⟩)
      · rintro (h | ⟨_, h⟩ | ⟨h12, h⟩)
        · exact Or.inl (Or.inl h)
        · exact Or.inl (Or.inr h)
        · have := od h12
          refine Or.inr ⟨h12, ?_⟩
          rw [pk_un (by omega)]
          exact h
    · rw [s4 j, nb_upu, nb_ups]
      unfold nb_d3 nb_d2
      rw [if_pos g]
      by_cases h12 : k = 12
      · have := od h12
        rw [if_pos h12, if_pos h12, nb_upn (show d ≠ c by omega)]
      · rw [if_neg h12, if_neg h12]
  · have e : nb_oc k ≤ 1 := by
      unfold nb_oc
      by_cases a : k < 3
      · rw [if_pos a]; omega
      · rw [if_neg a, if_neg (by omega), if_neg g]; omega
    refine br_t (nI_le (b := 1) e (by omega)) ?_
    refine nx_g57 _ hc hz z0 hD (fun j hj => by have := bd j hj; omega) od nd (fun oz' rch' D'' s1 s2 s3 s4 => hp oy oz' rch' D'' (nb_up0 hy (by rw [nb g, y0])) s1 s2 (fun i => ?_) (fun j => ?_))
    · rw [s3 i]
      exact ⟨fun h => h.elim Or.inl (fun h => Or.inr (Or.inr h)), fun h => h.elim Or.inl (fun h => h.elim (fun h => absurd h.1 g) Or.inr)⟩
    · rw [s4 j, nb_d2, if_neg g]
theorem nx_go (post : SX → Prop) (hc : c < 24) {k a b d w : Nat} (hk : k ≤ 18) (hKc : K c = nI k) (hx : ∀ j, ox j = nI (xo j)) (x0 : xo c = 0) (hy : ∀ j, oy j = nI (yo j)) (y0 : yo c = 0) (hz : ∀ j, oz j = nI (zo j)) (z0 : zo c = 0) (hD : ∀ j, D j = nI (dp j)) (d0 : dp c = 0) (bd : ∀ j, j < c → dp j ≤ j) {x y z : Int32}
    (op : nb_ops c k x y z a b d w)
    (hp : ∀ ox' oy' oz' rch' D', (∀ j, ox' j = nI (nb_up xo c a j)) → (∀ j, oy' j = nI (nb_up yo c b j)) → (∀ j, oz' j = nI (nb_up zo c d j)) → (∀ j, j ≠ c → rch' j = rch j)
      → (∀ i, i < 24 → (bt (rch' c) i = true ↔ (i = c ∨ (3 ≤ k ∧ bt (rch a) i = true) ∨ ((4 ≤ k ∧ k ≤ 15) ∧ bt (rch b) i = true) ∨ (k = 12 ∧ bt (rch d) i = true))))
      → (∀ j, D' j = nI (nb_up dp c (nb_dv k (dp a) (dp b) (dp d)) j)) → post ((nI c), cs, sw, pp, pd, pe, K, W, ox', oy', oz', nums, rch', D', nx, en, fo, H, nt, mem, nm, vals, tr)) :
    wpX_giveOperands post ((nI c), cs, sw, pp, pd, pe, K, W, ox, oy, oz, nums, rch, D, nx, en, fo, H, nt, mem, nm, vals, tr) (nI c) x y z := by
  obtain ⟨oa, na, ob, nb, od, nd, _, _⟩ := op
  have x1 : vp_in (nI c) 24 := vp_in_nI (by omega) (by omega)
  have x2 : (nI c).toNatClampNeg = c := nI_clamp (by omega)
  have b99 : ∀ j, j ≤ c → dp j < 50 := fun j hj => by
    by_cases q : j = c
    · subst q; omega
    · have := bd j (by omega); omega
  have one : ∀ i, i < 24 → (bt ((1 : Int32) <<< (nI c &&& 31)) i = true ↔ i = c) := fun i hi => by rw [nb_one c (by omega) i (by omega), decide_eq_true_eq]
  unfold wpX_giveOperands
  refine ⟨x1, ?_⟩
  rw [x2, hKc]
  refine nx_oc _ hk ⟨x1, nm_e ?_⟩
  by_cases g : 3 ≤ k
  · obtain ⟨ha, rfl⟩ := oa g
    have e : 0 < nb_oc k ∧ nb_oc k < 100 := by
      unfold nb_oc
      rw [if_neg (by omega)]
      by_cases q : k = 12
      · rw [if_pos q]; omega
      · rw [if_neg q]
        by_cases q4 : 4 ≤ k ∧ k ≤ 15
        · rw [if_pos q4]; omega
        · rw [if_neg q4]; omega
    refine br_f (fun w => absurd ((nI_leI (b := 0) (by omega) (by omega)).mp w) (by omega)) ⟨x1, nm_e ?_⟩
    have bb := b99 a (by omega)
    refine nx_sb _ hc hD ha (by omega) (by omega) (fun D' hD' => ?_)
    refine nx_g38 _ hc hy y0 hz z0 hD' (fun j hj => ?_) ob nb od nd (fun oy' oz' rch' D'' s0 s1 s2 s3 s4 => hp _ oy' oz' rch' D'' (nb_upI hx) s0 s1 (fun j hj => (s2 j hj).trans ((pk_un hj).trans (pk_un hj))) (fun i hi => ?_) (fun j => ?_))
    · by_cases q : j = c
      · subst q; rw [nb_ups]; exact Nat.lt_of_le_of_lt (nb_mx_le (n := 60) (by omega) (by omega)) (by omega)
      · rw [nb_upn q]; have := b99 j hj; omega
    · rw [s3 i, pk_us, b_or, Bool.or_eq_true, pk_us, one i hi, pk_un (show a ≠ c by omega)]
      have pb : (4 ≤ k ∧ k ≤ 15) → ∀ v w, upd (upd rch c v) c w b = rch b := fun g4 v w => by
        have := ob g4
        rw [pk_un (by omega), pk_un (by omega)]
      have pd : k = 12 → ∀ v w, upd (upd rch c v) c w d = rch d := fun g4 v w => by
        have := od g4
        rw [pk_un (by omega), pk_un (by omega)]
      constructor
      · rintro ((h | h) | ⟨h4, h⟩ | ⟨h12, h⟩)
        · exact Or.inl h
        · exact Or.inr (Or.inl ⟨g, h⟩)
        · rw [pb h4] at h; exact Or.inr (Or.inr (Or.inl ⟨h4, h⟩))
        · rw [pd h12] at h; exact Or.inr (Or.inr (Or.inr ⟨h12, h⟩))
      · rintro (h | ⟨_, h⟩ | ⟨h4, h⟩ | ⟨h12, h⟩)
        · exact Or.inl (Or.inl h)
        · exact Or.inl (Or.inr h)
        · refine Or.inr (Or.inl ⟨h4, ?_⟩); rw [pb h4]; exact h
        · refine Or.inr (Or.inr ⟨h12, ?_⟩); rw [pd h12]; exact h
    · rw [s4 j, nb_upu, nb_ups, ← nb_d123, d0, nb_d1, if_pos g]
      unfold nb_d3 nb_d2
      by_cases h4 : 4 ≤ k ∧ k ≤ 15
      · have := ob h4
        rw [if_pos h4, if_pos h4, nb_upn (show b ≠ c by omega)]
        by_cases h12 : k = 12
        · have := od h12
          rw [if_pos h12, if_pos h12, nb_upn (show d ≠ c by omega)]
        · rw [if_neg h12, if_neg h12]
      · rw [if_neg h4, if_neg h4, if_neg (by omega), if_neg (by omega)]
  · have e : nb_oc k = 0 := by
      unfold nb_oc
      rw [if_pos (by omega)]
    rw [e]
    refine br_t (by decide) ?_
    rw [← e]
    refine nx_g38 _ hc hy y0 hz z0 hD (fun j hj => by have := b99 j hj; omega) ob nb od nd (fun oy' oz' rch' D'' s0 s1 s2 s3 s4 => hp ox oy' oz' rch' D'' (nb_up0 hx (by rw [na (by omega), x0])) s0 s1 (fun j hj => (s2 j hj).trans (pk_un hj)) (fun i hi => ?_) (fun j => ?_))
    · rw [s3 i, pk_us, one i hi]
      constructor
      · rintro (h | ⟨h, _⟩ | ⟨h, _⟩)
        · exact Or.inl h
        · omega
        · omega
      · rintro (h | ⟨h, _⟩ | ⟨h, _⟩ | ⟨h, _⟩)
        · exact Or.inl h
        · omega
        · omega
        · omega
    · rw [s4 j, ← nb_d123, d0, nb_d1, if_neg g]
theorem nx_gs (post : SX → Prop) (hc : c < 24) {k : Nat} (hk : k ≤ 18) (hKc : K c = nI k)
    (hp : post ((nI c), cs, sw, pp, pd, pe, K, W, ox, oy, oz, nums, rch, D, (upd nx c (-1)), (upd en c (-1)), (upd fo c (-1)), (upd H c (if k = 2 then nums c else 0)), (upd nt c (if k = 2 then nums c else 0)), mem, nm, vals, tr)) : wpX_giveState post ((nI c), cs, sw, pp, pd, pe, K, W, ox, oy, oz, nums, rch, D, nx, en, fo, H, nt, mem, nm, vals, tr) (nI c) := by
  have x1 : vp_in (nI c) 24 := vp_in_nI (by omega) (by omega)
  have x2 : (nI c).toNatClampNeg = c := nI_clamp (by omega)
  have fin : ∀ f, f = (if k = 2 then nums c else 0) → wX_giveState_20 post (nI c) f (nI c) cs sw pp pd pe K W ox oy oz nums rch D nx en fo H nt mem nm vals tr := fun f e => by
    unfold wX_giveState_20
    rw [x2, e]
    exact ⟨x1, nm_e ⟨x1, nm_e ⟨x1, nm_e ⟨x1, nm_e ⟨x1, nm_e hp⟩⟩⟩⟩⟩
  unfold wpX_giveState
  refine ⟨x1, ?_⟩
  rw [x2, hKc]
  by_cases g : k = 2
  · exact br_t (by rw [g]; rfl) ⟨x1, fin _ (by rw [if_pos g])⟩
  · exact br_f (fun w => g ((nI_eq (b := 2) (by omega) (by omega)).mp w)) (fin _ (by rw [if_neg g]))
end
