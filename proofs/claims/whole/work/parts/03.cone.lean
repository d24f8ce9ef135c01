/-! the cone of a signal: the component's bits, the reference's marks -/
theorem nb_bit (x : Int32) (i : Nat) (hi : i < 32) : ((x >>> (nI i &&& 31)) &&& 1) = 1 ↔ bt x i = true := by
  have h := b_sshr i hi x (i := 0) (by decide)
  rw [if_pos (by omega), Nat.add_zero] at h
  rw [← h, pk_and _ (m := 1) 1 (by decide)]
  unfold bt
  rw [← BitVec.testBit_toNat, Nat.testBit_zero, show (1 : Int32) = nI 1 from rfl, nI_eq (by omega) (by omega), decide_eq_true_eq]
theorem nb_one : ∀ i, i < 32 → ∀ j, j < 32 → bt ((1 : Int32) <<< (nI i &&& 31)) j = decide (j = i) := by decide +kernel
def nb_rq (kd xo yo zo : Nat → Nat) (rch : Nat → Int32) (j : Nat) : Prop :=
  ∀ i, i < 24 → (bt (rch j) i = true ↔ i = j ∨ (3 ≤ kd j ∧ bt (rch (xo j)) i = true) ∨ ((4 ≤ kd j ∧ kd j ≤ 15) ∧ bt (rch (yo j)) i = true) ∨ (kd j = 12 ∧ bt (rch (zo j)) i = true))
section
variable {c : Nat} {kd wd xo yo zo : Nat → Nat} {nums rch : Nat → Int32}
theorem nb_self (hc : c ≤ 24) (rq : ∀ j, j < c → nb_rq kd xo yo zo rch j) {s : Nat} (hs : s < c) : bt (rch s) s = true := (rq s hs s (by omega)).mpr (Or.inl rfl)
theorem nb_rcl (hc : c ≤ 24) (ok : ∀ j, j < c → nb_ok kd wd xo yo zo nums j) (rq : ∀ j, j < c → nb_rq kd xo yo zo rch j) :
    ∀ n s, s < n → s < c → nb_Cl c kd xo yo zo (fun i => bt (rch s) i = true) := by
  intro n
  induction n with
  | zero => intro s h; omega
  | succ n ih =>
    intro s hsn hs j hj hb
    obtain ⟨_, _, _, _, _, _, a1, a2, a3, _, _⟩ := ok s hs
    obtain ⟨_, _, _, _, _, _, b1, b2, b3, _, _⟩ := ok j hj
    have R := rq s hs
    rcases (R j (by omega)).mp hb with e | ⟨h, hb'⟩ | ⟨h, hb'⟩ | ⟨h, hb'⟩
    · subst e
      refine ⟨fun h => ?_, fun h h' => ?_, fun h => ?_⟩
      · exact (R _ (by have := a1 h; omega)).mpr (Or.inr (Or.inl ⟨h, nb_self hc rq (by have := a1 h; omega)⟩))
      · exact (R _ (by have := a2 h h'; omega)).mpr (Or.inr (Or.inr (Or.inl ⟨⟨h, h'⟩, nb_self hc rq (by have := a2 h h'; omega)⟩)))
      · exact (R _ (by have := a3 h; omega)).mpr (Or.inr (Or.inr (Or.inr ⟨h, nb_self hc rq (by have := a3 h; omega)⟩)))
    · have q := ih (xo s) (by have := a1 h; omega) (by have := a1 h; omega) j hj hb'
      refine ⟨fun g => ?_, fun g g' => ?_, fun g => ?_⟩
      · exact (R _ (by have := b1 g; omega)).mpr (Or.inr (Or.inl ⟨h, q.1 g⟩))
      · exact (R _ (by have := b2 g g'; omega)).mpr (Or.inr (Or.inl ⟨h, q.2.1 g g'⟩))
      · exact (R _ (by have := b3 g; omega)).mpr (Or.inr (Or.inl ⟨h, q.2.2 g⟩))
    · have q := ih (yo s) (by have := a2 h.1 h.2; omega) (by have := a2 h.1 h.2; omega) j hj hb'
      refine ⟨fun g => ?_, fun g g' => ?_, fun g => ?_⟩
      · exact (R _ (by have := b1 g; omega)).mpr (Or.inr (Or.inr (Or.inl ⟨h, q.1 g⟩)))
      · exact (R _ (by have := b2 g g'; omega)).mpr (Or.inr (Or.inr (Or.inl ⟨h, q.2.1 g g'⟩)))
      · exact (R _ (by have := b3 g; omega)).mpr (Or.inr (Or.inr (Or.inl ⟨h, q.2.2 g⟩)))
    · have q := ih (zo s) (by have := a3 h; omega) (by have := a3 h; omega) j hj hb'
      refine ⟨fun g => ?_, fun g g' => ?_, fun g => ?_⟩
      · exact (R _ (by have := b1 g; omega)).mpr (Or.inr (Or.inr (Or.inr ⟨h, q.1 g⟩)))
      · exact (R _ (by have := b2 g g'; omega)).mpr (Or.inr (Or.inr (Or.inr ⟨h, q.2.1 g g'⟩)))
      · exact (R _ (by have := b3 g; omega)).mpr (Or.inr (Or.inr (Or.inr ⟨h, q.2.2 g⟩)))
theorem nb_rup (hc : c ≤ 24) (ok : ∀ j, j < c → nb_ok kd wd xo yo zo nums j) (rq : ∀ j, j < c → nb_rq kd xo yo zo rch j) {M : Nat → Prop} (cl : nb_Cl c kd xo yo zo M) :
    ∀ n s, s < n → s < c → M s → ∀ i, i < c → bt (rch s) i = true → M i := by
  intro n
  induction n with
  | zero => intro s h; omega
  | succ n ih =>
    intro s hsn hs hM i hi hb
    obtain ⟨_, _, _, _, _, _, a1, a2, a3, _, _⟩ := ok s hs
    obtain ⟨c1, c2, c3⟩ := cl s hs hM
    rcases (rq s hs i (by omega)).mp hb with e | ⟨h, hb'⟩ | ⟨h, hb'⟩ | ⟨h, hb'⟩
    · exact e ▸ hM
    · exact ih (xo s) (by have := a1 h; omega) (by have := a1 h; omega) (c1 h) i hi hb'
    · exact ih (yo s) (by have := a2 h.1 h.2; omega) (by have := a2 h.1 h.2; omega) (c2 h.1 h.2) i hi hb'
    · exact ih (zo s) (by have := a3 h; omega) (by have := a3 h; omega) (c3 h) i hi hb'
/-- the cone of two signals is closed, holds both, and lies in every closed set that holds both -/
theorem nb_cone (hc : c ≤ 24) (ok : ∀ j, j < c → nb_ok kd wd xo yo zo nums j) (rq : ∀ j, j < c → nb_rq kd xo yo zo rch j) {s t : Nat} (hs : s < c) (ht : t < c) :
    nb_Cl c kd xo yo zo (fun i => bt (rch s ||| rch t) i = true) ∧ bt (rch s ||| rch t) s = true ∧ bt (rch s ||| rch t) t = true
      ∧ ∀ M : Nat → Prop, nb_Cl c kd xo yo zo M → M s → M t → ∀ i, i < c → bt (rch s ||| rch t) i = true → M i := by
  refine ⟨?_, ?_, ?_, ?_⟩
  · intro j hj hb
    have hb2 : (bt (rch s) j || bt (rch t) j) = true := by rw [← b_or]; exact hb
    rw [Bool.or_eq_true] at hb2
    have lift : ∀ a, bt (rch s) a = true ∨ bt (rch t) a = true → bt (rch s ||| rch t) a = true := fun a h => by rw [b_or, Bool.or_eq_true]; exact h
    rcases hb2 with h | h
    · have q := nb_rcl hc ok rq (s + 1) s (by omega) hs j hj h
      exact ⟨fun g => lift _ (Or.inl (q.1 g)), fun g g' => lift _ (Or.inl (q.2.1 g g')), fun g => lift _ (Or.inl (q.2.2 g))⟩
    · have q := nb_rcl hc ok rq (t + 1) t (by omega) ht j hj h
      exact ⟨fun g => lift _ (Or.inr (q.1 g)), fun g g' => lift _ (Or.inr (q.2.1 g g')), fun g => lift _ (Or.inr (q.2.2 g))⟩
  · rw [b_or, nb_self hc rq hs, Bool.true_or]
  · rw [b_or, nb_self hc rq ht, Bool.or_true]
  · intro M cl ms mt i hi hb
    rw [b_or, Bool.or_eq_true] at hb
    rcases hb with h | h
    · exact nb_rup hc ok rq cl (s + 1) s (by omega) hs ms i hi h
    · exact nb_rup hc ok rq cl (t + 1) t (by omega) ht mt i hi h
end
/-- a signal of the support -/
def nb_sp (cone : Int32) (kd : Nat → Nat) (j : Nat) : Bool := bt cone j && (decide (kd j = 0) || decide (kd j = 2))
theorem nb_sp_iff {cone : Int32} {kd : Nat → Nat} {j : Nat} : nb_sp cone kd j = true ↔ bt cone j = true ∧ (kd j = 0 ∨ kd j = 2) := by
  unfold nb_sp
  rw [Bool.and_eq_true, Bool.or_eq_true, decide_eq_true_eq, decide_eq_true_eq]
def nb_sw (P : Nat → Bool) (wd : Nat → Nat) : Nat → Nat
  | 0 => 0
  | n + 1 => nb_sw P wd n + (if P n = true then wd n else 0)
theorem nb_sw_t {P : Nat → Bool} {wd : Nat → Nat} {n : Nat} (h : P n = true) : nb_sw P wd (n + 1) = nb_sw P wd n + wd n := by
  rw [nb_sw, if_pos h]
theorem nb_sw_f {P : Nat → Bool} {wd : Nat → Nat} {n : Nat} (h : ¬ P n = true) : nb_sw P wd (n + 1) = nb_sw P wd n := by
  rw [nb_sw, if_neg h, Nat.add_zero]
theorem nb_sw_le {P : Nat → Bool} {wd : Nat → Nat} {c : Nat} (h : ∀ j, j < c → wd j < 7) : ∀ n, n ≤ c → nb_sw P wd n ≤ 6 * n := by
  intro n
  induction n with
  | zero => intro _; exact Nat.le_refl 0
  | succ n ih =>
    intro hn
    have h1 := ih (by omega)
    have h2 := h n (by omega)
    by_cases q : P n = true
    · rw [nb_sw_t q]; omega
    · rw [nb_sw_f q]; omega
/-- what is left of a way's bits before signal n, and the value that signal j is given -/
def nb_rs (P : Nat → Bool) (wd : Nat → Nat) (way : Int32) : Nat → Int32
  | 0 => way
  | n + 1 => if P n = true then nb_rs P wd way n >>> (nI (wd n) &&& 31) else nb_rs P wd way n
theorem nb_rs_t {P : Nat → Bool} {wd : Nat → Nat} {way : Int32} {n : Nat} (h : P n = true) : nb_rs P wd way (n + 1) = nb_rs P wd way n >>> (nI (wd n) &&& 31) := by
  rw [nb_rs, if_pos h]
theorem nb_rs_f {P : Nat → Bool} {wd : Nat → Nat} {way : Int32} {n : Nat} (h : ¬ P n = true) : nb_rs P wd way (n + 1) = nb_rs P wd way n := by
  rw [nb_rs, if_neg h]
def nb_tv (P : Nat → Bool) (wd : Nat → Nat) (way : Int32) (j : Nat) : Int32 := nb_rs P wd way j &&& nb_m (wd j)
