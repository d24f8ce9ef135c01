/-! the small methods of both sides: what they ask of their caller -/
def nb_sg (c : Nat) (s : Int32) : Prop := ∃ a, a < c ∧ s = nI a
section
variable {c : Nat} {cs sw pp pd pe : Int32} {K W ox oy oz nums rch D nx en fo H nt mem nm vals tr ex ey ez nty va td mt : Nat → Int32} {kd wd xo yo zo dp : Nat → Nat}
theorem nx_isS_t (post : Int32 → Prop) (hc : c ≤ 24) {a : Nat} (ha : a < c) (h : post 1) : wpX_isSignal post ((nI c), cs, sw, pp, pd, pe, K, W, ox, oy, oz, nums, rch, D, nx, en, fo, H, nt, mem, nm, vals, tr) (nI a) :=
  br_f (nI_pos (by omega)) (br_f (nI_ge ha (by omega)) h)
theorem nx_isS_f (post : Int32 → Prop) (hc : c ≤ 24) {s : Int32} (hs : ¬ nb_sg c s) (h : post 0) : wpX_isSignal post ((nI c), cs, sw, pp, pd, pe, K, W, ox, oy, oz, nums, rch, D, nx, en, fo, H, nt, mem, nm, vals, tr) s := by
  by_cases q0 : s < 0
  · exact br_t q0 h
  · rcases pk_ix s (n := c) (by omega) with q | q | ⟨j, hj, q⟩
    · exact absurd q q0
    · exact br_f q0 (br_t q h)
    · exact absurd ⟨j, hj, q⟩ hs
theorem nx_isW_t (post : Int32 → Prop) (hc : c ≤ 24) (hW : ∀ j, W j = nI (wd j)) {a : Nat} (ha : a < c) {p : Int32} (e : nI (wd a) = p) (h : post 1) : wpX_isOfWidth post ((nI c), cs, sw, pp, pd, pe, K, W, ox, oy, oz, nums, rch, D, nx, en, fo, H, nt, mem, nm, vals, tr) (nI a) p := by
  unfold wpX_isOfWidth
  refine nx_isS_t _ hc ha ?_
  refine br_f (by decide) ⟨vp_in_nI (by omega) (by omega), ?_⟩
  rw [nI_clamp (by omega), hW]
  exact br_t e h
theorem nx_isW_f (post : Int32 → Prop) (hc : c ≤ 24) (hW : ∀ j, W j = nI (wd j)) {s p : Int32} (hs : ¬ ∃ a, a < c ∧ s = nI a ∧ nI (wd a) = p) (h : post 0) : wpX_isOfWidth post ((nI c), cs, sw, pp, pd, pe, K, W, ox, oy, oz, nums, rch, D, nx, en, fo, H, nt, mem, nm, vals, tr) s p := by
  unfold wpX_isOfWidth
  by_cases q : nb_sg c s
  · obtain ⟨a, ha, rfl⟩ := q
    refine nx_isS_t _ hc ha ?_
    refine br_f (by decide) ⟨vp_in_nI (by omega) (by omega), ?_⟩
    rw [nI_clamp (by omega), hW]
    exact br_f (fun e => hs ⟨a, ha, rfl, e⟩) h
  · exact nx_isS_f _ hc q (br_t rfl h)
theorem nx_al_t (post : Int32 → Prop) (hc : c ≤ 24) (hW : ∀ j, W j = nI (wd j)) {a b : Nat} (ha : a < c) (hb : b < c) (e : wd a = wd b) (h : post 1) : wpX_areOfSameWidth post ((nI c), cs, sw, pp, pd, pe, K, W, ox, oy, oz, nums, rch, D, nx, en, fo, H, nt, mem, nm, vals, tr) (nI a) (nI b) := by
  unfold wpX_areOfSameWidth
  refine nx_isS_t _ hc ha ?_
  refine br_f (by decide) ?_
  refine nx_isS_t _ hc hb ?_
  refine br_f (by decide) ⟨vp_in_nI (by omega) (by omega), vp_in_nI (by omega) (by omega), ?_⟩
  rw [nI_clamp (by omega), nI_clamp (by omega), hW, hW, e]
  exact br_t rfl h
theorem nx_al_f (post : Int32 → Prop) (hc : c ≤ 24) (hW : ∀ j, W j = nI (wd j)) (h7 : ∀ j, j < c → wd j < 7) {s t : Int32} (hs : ¬ ∃ a b, a < c ∧ b < c ∧ s = nI a ∧ t = nI b ∧ wd a = wd b) (h : post 0) : wpX_areOfSameWidth post ((nI c), cs, sw, pp, pd, pe, K, W, ox, oy, oz, nums, rch, D, nx, en, fo, H, nt, mem, nm, vals, tr) s t := by
  unfold wpX_areOfSameWidth
  by_cases q : nb_sg c s
  · obtain ⟨a, ha, rfl⟩ := q
    refine nx_isS_t _ hc ha ?_
    refine br_f (by decide) ?_
    by_cases q2 : nb_sg c t
    · obtain ⟨b, hb, rfl⟩ := q2
      refine nx_isS_t _ hc hb ?_
      refine br_f (by decide) ⟨vp_in_nI (by omega) (by omega), vp_in_nI (by omega) (by omega), ?_⟩
      rw [nI_clamp (by omega), nI_clamp (by omega), hW, hW]
      refine br_f (fun e => hs ⟨a, b, ha, hb, rfl, rfl, ?_⟩) h
      have := h7 a ha
      have := h7 b hb
      exact (nI_eq (by omega) (by omega)).mp e
    · exact nx_isS_f _ hc q2 (br_t rfl h)
  · exact nx_isS_f _ hc q (br_t rfl h)
theorem ny_isS_t (post : Int32 → Prop) (hc : c ≤ 24) {a : Nat} (ha : a < c) (h : post 1) : wpY_isSignal post ((nI c), cs, sw, pp, pd, pe, K, ex, ey, ez, W, H, nty, fo, va, nx, en, mem, nm, td, mt) (nI a) :=
  br_f (nI_pos (by omega)) (br_f (nI_ge ha (by omega)) h)
theorem ny_isS_f (post : Int32 → Prop) (hc : c ≤ 24) {s : Int32} (hs : ¬ nb_sg c s) (h : post 0) : wpY_isSignal post ((nI c), cs, sw, pp, pd, pe, K, ex, ey, ez, W, H, nty, fo, va, nx, en, mem, nm, td, mt) s := by
  by_cases q0 : s < 0
  · exact br_t q0 h
  · rcases pk_ix s (n := c) (by omega) with q | q | ⟨j, hj, q⟩
    · exact absurd q q0
    · exact br_f q0 (br_t q h)
    · exact absurd ⟨j, hj, q⟩ hs
theorem ny_isW_t (post : Int32 → Prop) (hc : c ≤ 24) (hW : ∀ j, W j = nI (wd j)) {a : Nat} (ha : a < c) {p : Int32} (e : nI (wd a) = p) (h : post 1) : wpY_isWide post ((nI c), cs, sw, pp, pd, pe, K, ex, ey, ez, W, H, nty, fo, va, nx, en, mem, nm, td, mt) (nI a) p := by
  unfold wpY_isWide
  refine ny_isS_t _ hc ha ?_
  refine br_f (by decide) ⟨vp_in_nI (by omega) (by omega), ?_⟩
  rw [nI_clamp (by omega), hW]
  exact br_t e h
theorem ny_isW_f (post : Int32 → Prop) (hc : c ≤ 24) (hW : ∀ j, W j = nI (wd j)) {s p : Int32} (hs : ¬ ∃ a, a < c ∧ s = nI a ∧ nI (wd a) = p) (h : post 0) : wpY_isWide post ((nI c), cs, sw, pp, pd, pe, K, ex, ey, ez, W, H, nty, fo, va, nx, en, mem, nm, td, mt) s p := by
  unfold wpY_isWide
  by_cases q : nb_sg c s
  · obtain ⟨a, ha, rfl⟩ := q
    refine ny_isS_t _ hc ha ?_
    refine br_f (by decide) ⟨vp_in_nI (by omega) (by omega), ?_⟩
    rw [nI_clamp (by omega), hW]
    exact br_f (fun e => hs ⟨a, ha, rfl, e⟩) h
  · exact ny_isS_f _ hc q (br_t rfl h)
theorem ny_al_t (post : Int32 → Prop) (hc : c ≤ 24) (hW : ∀ j, W j = nI (wd j)) {a b : Nat} (ha : a < c) (hb : b < c) (e : wd a = wd b) (h : post 1) : wpY_alike post ((nI c), cs, sw, pp, pd, pe, K, ex, ey, ez, W, H, nty, fo, va, nx, en, mem, nm, td, mt) (nI a) (nI b) := by
  unfold wpY_alike
  refine ny_isS_t _ hc ha ?_
  refine br_f (by decide) ?_
  refine ny_isS_t _ hc hb ?_
  refine br_f (by decide) ⟨vp_in_nI (by omega) (by omega), vp_in_nI (by omega) (by omega), ?_⟩
  rw [nI_clamp (by omega), nI_clamp (by omega), hW, hW, e]
  exact br_t rfl h
theorem ny_al_f (post : Int32 → Prop) (hc : c ≤ 24) (hW : ∀ j, W j = nI (wd j)) (h7 : ∀ j, j < c → wd j < 7) {s t : Int32} (hs : ¬ ∃ a b, a < c ∧ b < c ∧ s = nI a ∧ t = nI b ∧ wd a = wd b) (h : post 0) : wpY_alike post ((nI c), cs, sw, pp, pd, pe, K, ex, ey, ez, W, H, nty, fo, va, nx, en, mem, nm, td, mt) s t := by
  unfold wpY_alike
  by_cases q : nb_sg c s
  · obtain ⟨a, ha, rfl⟩ := q
    refine ny_isS_t _ hc ha ?_
    refine br_f (by decide) ?_
    by_cases q2 : nb_sg c t
    · obtain ⟨b, hb, rfl⟩ := q2
      refine ny_isS_t _ hc hb ?_
      refine br_f (by decide) ⟨vp_in_nI (by omega) (by omega), vp_in_nI (by omega) (by omega), ?_⟩
      rw [nI_clamp (by omega), nI_clamp (by omega), hW, hW]
      refine br_f (fun e => hs ⟨a, b, ha, hb, rfl, rfl, ?_⟩) h
      have := h7 a ha
      have := h7 b hb
      exact (nI_eq (by omega) (by omega)).mp e
    · exact ny_isS_f _ hc q2 (br_t rfl h)
  · exact ny_isS_f _ hc q (br_t rfl h)
theorem nx_isK_t (post : Int32 → Prop) (hc : c ≤ 24) (hK : ∀ j, K j = nI (kd j)) {a : Nat} (ha : a < c) {p : Int32} (e : nI (kd a) = p) (h : post 1) : wpX_isOfKind post ((nI c), cs, sw, pp, pd, pe, K, W, ox, oy, oz, nums, rch, D, nx, en, fo, H, nt, mem, nm, vals, tr) (nI a) p := by
  unfold wpX_isOfKind
  refine nx_isS_t _ hc ha ?_
  refine br_f (by decide) ⟨vp_in_nI (by omega) (by omega), ?_⟩
  rw [nI_clamp (by omega), hK]
  exact br_t e h
theorem nx_isK_f (post : Int32 → Prop) (hc : c ≤ 24) (hK : ∀ j, K j = nI (kd j)) {s p : Int32} (hs : ¬ ∃ a, a < c ∧ s = nI a ∧ nI (kd a) = p) (h : post 0) : wpX_isOfKind post ((nI c), cs, sw, pp, pd, pe, K, W, ox, oy, oz, nums, rch, D, nx, en, fo, H, nt, mem, nm, vals, tr) s p := by
  unfold wpX_isOfKind
  by_cases q : nb_sg c s
  · obtain ⟨a, ha, rfl⟩ := q
    refine nx_isS_t _ hc ha ?_
    refine br_f (by decide) ⟨vp_in_nI (by omega) (by omega), ?_⟩
    rw [nI_clamp (by omega), hK]
    exact br_f (fun e => hs ⟨a, ha, rfl, e⟩) h
  · exact nx_isS_f _ hc q (br_t rfl h)
theorem nx_fw_t (post : Int32 → Prop) {w : Nat} (hw : w < 7) {v : Int32} (r : nb_R w v) (h : post 1) : wpX_fitsWidth post v (nI w) := by
  have q := (nb_fit hw).mpr r
  exact br_f q.1 (br_f (Int32.not_le.mpr q.2) h)
theorem nx_fw_f (post : Int32 → Prop) {w : Nat} (hw : w < 7) {v : Int32} (r : ¬ nb_R w v) (h : post 0) : wpX_fitsWidth post v (nI w) := by
  by_cases q0 : v < 0
  · exact br_t q0 h
  · refine br_f q0 (br_t ?_ h)
    rcases Classical.em ((1 : Int32) <<< (nI w &&& 31) ≤ v) with q | q
    · exact q
    · exact absurd ((nb_fit hw).mp ⟨q0, Int32.not_le.mp q⟩) r
theorem nb_a7 : ∀ w, w < 7 → (nI w &&& 7) = nI w := by decide +kernel
theorem ny_ir_t (post : Int32 → Prop) {w : Nat} (h1 : 1 ≤ w) (hw : w < 7) {v : Int32} (r : nb_R w v) (h : post 1) : wpY_inRange post ((nI c), cs, sw, pp, pd, pe, K, ex, ey, ez, W, H, nty, fo, va, nx, en, mem, nm, td, mt) v (nI w) := by
  have q := (nb_fit hw).mpr r
  refine br_f (nI_nlt (b := 1) h1 (by omega)) (br_f (nI_nlt (a := 6) (by omega) (by omega)) (br_f q.1 (br_f ?_ h)))
  rw [nb_a7 w hw]
  exact Int32.not_le.mpr q.2
theorem ny_ir_f (post : Int32 → Prop) {w : Nat} (h1 : 1 ≤ w) (hw : w < 7) {v : Int32} (r : ¬ nb_R w v) (h : post 0) : wpY_inRange post ((nI c), cs, sw, pp, pd, pe, K, ex, ey, ez, W, H, nty, fo, va, nx, en, mem, nm, td, mt) v (nI w) := by
  refine br_f (nI_nlt (b := 1) h1 (by omega)) (br_f (nI_nlt (a := 6) (by omega) (by omega)) ?_)
  by_cases q0 : v < 0
  · exact br_t q0 h
  · refine br_f q0 (br_t ?_ h)
    rw [nb_a7 w hw]
    rcases Classical.em ((1 : Int32) <<< (nI w &&& 31) ≤ v) with q | q
    · exact q
    · exact absurd ((nb_fit hw).mp ⟨q0, Int32.not_le.mp q⟩) r
theorem nx_ones (post : Int32 → Prop) (v : Int32) (h : post (nb_os v 6)) : wpX_countOnes post v := by
  have key : ∀ d i, i + d = 6 → wX_countOnes_4 post v (d + 1) (nb_os v i) (nI i) := by
    intro d
    induction d with
    | zero =>
      intro i hi
      have : i = 6 := by omega
      subst this
      exact br_t (by decide) h
    | succ d ih =>
      intro i hi
      refine br_f (nI_ge (b := 6) (by omega) (by omega)) (nm_e (nm_r (nI_1 i) (ih (i + 1) (by omega))))
  exact ⟨7, key 6 0 rfl⟩
theorem ny_ones (post : Int32 → Prop) (v : Int32) (h : post (nb_os v 6)) : wpY_ones post ((nI c), cs, sw, pp, pd, pe, K, ex, ey, ez, W, H, nty, fo, va, nx, en, mem, nm, td, mt) v := by
  have key : ∀ d i, i + d = 6 → wY_ones_4 post v (nI c) cs sw pp pd pe K ex ey ez W H nty fo va nx en mem nm td mt (d + 1) (nb_os v i) (nI i) := by
    intro d
    induction d with
    | zero =>
      intro i hi
      have : i = 6 := by omega
      subst this
      exact br_t (by decide) h
    | succ d ih =>
      intro i hi
      refine br_f (nI_ge (b := 6) (by omega) (by omega)) (nm_e (nm_r (nI_1 i) (ih (i + 1) (by omega))))
  exact ⟨7, key 6 0 rfl⟩
end
