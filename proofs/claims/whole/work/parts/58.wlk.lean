/-! walks over a machine -/
def rl (M : MC) : Int → List Nat → Int
  | s, [] => s
  | s, l :: w => rl M (fo M s l) w
theorem rl_app {M : MC} : ∀ {w : List Nat} {s : Int} {v : List Nat}, rl M s (w ++ v) = rl M (rl M s w) v
  | [], _, _ => rfl
  | l :: w, s, v => by
    rw [List.cons_append]
    exact rl_app (w := w) (s := fo M s l) (v := v)
theorem rl_n {M : MC} : ∀ {w : List Nat}, rl M (-1) w = -1
  | [] => rfl
  | l :: w => by
    show rl M (fo M (-1) l) w = -1
    rw [fo_n]
    exact rl_n
def Lw (a : Nat) (w : List Nat) : Prop := ∀ l ∈ w, l < a
theorem Lw_app {a : Nat} {w v : List Nat} (h1 : Lw a w) (h2 : Lw a v) : Lw a (w ++ v) := fun l hl => by
  rcases List.mem_append.mp hl with h | h
  · exact h1 l h
  · exact h2 l h
theorem Lw_c {a l : Nat} {w : List Nat} (h : Lw a (l :: w)) : l < a ∧ Lw a w := ⟨h l List.mem_cons_self, fun k hk => h k (List.mem_cons_of_mem _ hk)⟩
theorem Lw_cons {a l : Nat} {w : List Nat} (hl : l < a) (h : Lw a w) : Lw a (l :: w) := fun k hk => by
  rcases List.mem_cons.mp hk with z | z
  · omega
  · exact h k z
def Rc (M : MC) (a : Nat) (s : Int) : Prop := ∃ w, Lw a w ∧ rl M 0 w = s
def Ck (M : MC) (a : Nat) (s : Int) : Prop := ∃ w, Lw a w ∧ inM M (rl M s w) = true
theorem Rc_0 {M : MC} {a : Nat} : Rc M a 0 := ⟨[], fun l h => by simp at h, rfl⟩
theorem Rc_s {M : MC} {a l : Nat} {s : Int} (h : Rc M a s) (hl : l < a) : Rc M a (fo M s l) := by
  obtain ⟨w, h1, h2⟩ := h
  refine ⟨w ++ [l], Lw_app h1 (Lw_cons hl (fun l h => by simp at h)), ?_⟩
  rw [rl_app, h2]
  rfl
theorem rl_of {M : MC} {a : Nat} {R : Int → Prop} (hs : ∀ s l, R s → l < a → R (fo M s l)) : ∀ {w : List Nat} {s : Int}, Lw a w → R s → R (rl M s w)
  | [], s, _, h => h
  | l :: w, s, hw, h => by
    have := Lw_c hw
    exact rl_of hs (w := w) this.2 (hs s l h this.1)
theorem Rc_of {M : MC} {a : Nat} {R : Int → Prop} (h0 : R 0) (hs : ∀ s l, R s → l < a → R (fo M s l)) {s : Int} (h : Rc M a s) : R s := by
  obtain ⟨w, h1, h2⟩ := h
  rw [← h2]
  exact rl_of hs h1 h0
theorem Ck_in {M : MC} {a : Nat} {s : Int} (h : inM M s = true) : Ck M a s := ⟨[], fun l h => by simp at h, h⟩
theorem Ck_s {M : MC} {a l : Nat} {s : Int} (hl : l < a) (h : Ck M a (fo M s l)) : Ck M a s := by
  obtain ⟨w, h1, h2⟩ := h
  exact ⟨l :: w, Lw_cons hl h1, h2⟩
theorem Ck_of {M : MC} {a : Nat} {R : Int → Prop} (h0 : ∀ s, inM M s = true → R s) (hs : ∀ s l, l < a → R (fo M s l) → R s) {s : Int} (h : Ck M a s) : R s := by
  obtain ⟨w, h1, h2⟩ := h
  induction w generalizing s with
  | nil => exact h0 s h2
  | cons l w ih =>
    have := Lw_c h1
    exact hs s l this.1 (ih this.2 h2)
theorem inM_n {M : MC} : inM M (-1) = false := by
  unfold inM
  rw [decide_eq_false (by omega)]
  rfl
theorem Ck_n {M : MC} {a : Nat} : ¬ Ck M a (-1) := by
  intro ⟨w, _, h⟩
  rw [rl_n, inM_n] at h
  cases h
theorem fo_r {M : MC} {a l : Nat} {s : Int} (hW : MW a M) (hl : l < a) (ha : a ≤ 4) : fo M s l = -1 ∨ (0 ≤ fo M s l ∧ fo M s l < M.1) := by
  have := fo_b (s := s) hW (show l < 4 by omega)
  omega
theorem Rc_b {M : MC} {a : Nat} {s : Int} (hW : MW a M) (ha : a ≤ 4) (h0 : 0 < M.1) (h : Rc M a s) : s = -1 ∨ (0 ≤ s ∧ s < M.1) :=
  Rc_of (R := fun s => s = -1 ∨ (0 ≤ s ∧ s < M.1)) (by omega) (fun s l _ hl => fo_r hW hl ha) h
/-- useful -/
noncomputable def usB (M : MC) (a : Nat) (s : Int) : Bool := @decide (Rc M a s ∧ Ck M a s) (Classical.propDecidable _)
theorem usB_d {M : MC} {a : Nat} {s : Int} : usB M a s = true ↔ Rc M a s ∧ Ck M a s := by
  unfold usB
  exact @decide_eq_true_iff _ (Classical.propDecidable _)
theorem usB_n {M : MC} {a : Nat} : usB M a (-1) = false := by
  cases h : usB M a (-1) with
  | false => rfl
  | true => exact absurd (usB_d.mp h).2 Ck_n
def orL (p : Nat → Bool) : Nat → Bool
  | 0 => false
  | n + 1 => orL p n || p n
theorem orL_s {p : Nat → Bool} {n : Nat} : orL p (n + 1) = (orL p n || p n) := rfl
theorem orL_d {p : Nat → Bool} : ∀ {n : Nat}, orL p n = true ↔ ∃ l, l < n ∧ p l = true
  | 0 => ⟨fun h => (by cases h), fun ⟨l, h, _⟩ => by omega⟩
  | n + 1 => by
    rw [orL_s, Bool.or_eq_true, orL_d (n := n)]
    constructor
    · rintro (⟨l, h1, h2⟩ | h)
      · exact ⟨l, by omega, h2⟩
      · exact ⟨n, by omega, h⟩
    · rintro ⟨l, h1, h2⟩
      rcases Nat.lt_or_ge l n with z | z
      · exact Or.inl ⟨l, z, h2⟩
      · have : l = n := by omega
        subst this
        exact Or.inr h2
/-- a walk of k letters over useful states -/
noncomputable def ek (M : MC) (a : Nat) : Nat → Int → Bool
  | 0, s => usB M a s
  | k + 1, s => usB M a s && orL (fun l => ek M a k (fo M s l)) a
theorem ek_s {M : MC} {a k : Nat} {s : Int} : ek M a (k + 1) s = (usB M a s && orL (fun l => ek M a k (fo M s l)) a) := rfl
theorem ek_d {M : MC} {a k : Nat} {s : Int} : ek M a (k + 1) s = true ↔ usB M a s = true ∧ ∃ l, l < a ∧ ek M a k (fo M s l) = true := by
  rw [ek_s, Bool.and_eq_true, orL_d]
theorem ek_us {M : MC} {a : Nat} : ∀ {k : Nat} {s : Int}, ek M a k s = true → usB M a s = true
  | 0, _, h => h
  | k + 1, _, h => (ek_d.mp h).1
theorem ek_dn {M : MC} {a : Nat} : ∀ {k : Nat} {s : Int}, ek M a (k + 1) s = true → ek M a k s = true
  | 0, _, h => (ek_d.mp h).1
  | k + 1, s, h => by
    obtain ⟨h1, l, h2, h3⟩ := ek_d.mp h
    exact ek_d.mpr ⟨h1, l, h2, ek_dn h3⟩
theorem ek_le {M : MC} {a j : Nat} {s : Int} : ∀ {k : Nat}, j ≤ k → ek M a k s = true → ek M a j s = true
  | 0, h, e => by
    have : j = 0 := by omega
    subst this
    exact e
  | k + 1, h, e => by
    rcases Nat.lt_or_ge j (k + 1) with z | z
    · exact ek_le (by omega) (ek_dn e)
    · have : j = k + 1 := by omega
      subst this
      exact e
theorem ek_n {M : MC} {a k : Nat} : ek M a k (-1) = false := by
  cases h : ek M a k (-1) with
  | false => rfl
  | true =>
    have := ek_us h
    rw [usB_n] at this
    cases this
theorem ek_bk {M : MC} {a k l : Nat} {s : Int} (hr : Rc M a s) (hl : l < a) (h : ek M a k (fo M s l) = true) : ek M a k s = true := by
  have hc := (usB_d.mp (ek_us h)).2
  exact ek_dn (ek_d.mpr ⟨usB_d.mpr ⟨hr, Ck_s hl hc⟩, l, hl, h⟩)
theorem ek_0 {M : MC} {a k : Nat} {s : Int} (h : ek M a k s = true) : ek M a k 0 = true := by
  obtain ⟨w, h1, h2⟩ := (usB_d.mp (ek_us h)).1
  rw [← h2] at h
  clear h2
  have : ∀ (w : List Nat) (s : Int), Rc M a s → Lw a w → ek M a k (rl M s w) = true → ek M a k s = true := by
    intro w
    induction w with
    | nil => intro s _ _ h; exact h
    | cons l w ih =>
      intro s hr hw h
      have hl := Lw_c hw
      exact ek_bk hr hl.1 (ih (fo M s l) (Rc_s hr hl.1) hl.2 h)
  exact this w 0 Rc_0 h1 h
theorem ek_st {M : MC} {a k : Nat} (hW : MW a M) (ha : a ≤ 4) (h : ∀ s : Nat, s < M.1 → ek M a (k + 1) s = ek M a k s) : ∀ j, ∀ s : Nat, s < M.1 → ek M a (k + j) s = ek M a k s
  | 0, s, _ => rfl
  | j + 1, s, hs => by
    rw [← h s hs, show k + (j + 1) = (k + j) + 1 by omega, ek_s, ek_s]
    congr 1
    have : ∀ n, n ≤ a → orL (fun l => ek M a (k + j) (fo M (s : Int) l)) n = orL (fun l => ek M a k (fo M (s : Int) l)) n := by
      intro n
      induction n with
      | zero => intro _; rfl
      | succ n ih =>
        intro hn
        rw [orL_s, orL_s, ih (by omega)]
        congr 1
        rcases fo_r (s := (s : Int)) hW (show n < a by omega) ha with z | z
        · rw [z, ek_n, ek_n]
        · obtain ⟨t, ht⟩ : ∃ t : Nat, fo M (s : Int) n = t := ⟨(fo M (s : Int) n).toNat, by omega⟩
          rw [ht]
          exact ek_st hW ha h j t (by omega)
    exact this a (Nat.le_refl _)
theorem ek_all {M : MC} {a : Nat} (hW : MW a M) (ha : a ≤ 4) (h0 : 0 < M.1) (h : ek M a (cn (fun s => usB M a (s : Int)) M.1) 0 = true) : ∀ j, ek M a j 0 = true := by
  have key : ∀ k, (∃ i, i < k ∧ ∀ s : Nat, s < M.1 → ek M a (i + 1) s = ek M a i s) ∨ cn (fun s => ek M a k (s : Int)) M.1 + k ≤ cn (fun s => usB M a (s : Int)) M.1 := by
    intro k
    induction k with
    | zero => exact Or.inr (Nat.le_refl _)
    | succ k ih =>
      rcases ih with ⟨i, h1, h2⟩ | ih
      · exact Or.inl ⟨i, by omega, h2⟩
      · by_cases z : ∀ s : Nat, s < M.1 → ek M a (k + 1) s = ek M a k s
        · exact Or.inl ⟨k, by omega, z⟩
        · have ⟨b, hb⟩ := Classical.not_forall.mp z
          have ⟨hb1, hb2⟩ := Classical.not_imp.mp hb
          have hk : ek M a k (b : Int) = true ∧ ek M a (k + 1) (b : Int) = false := by
            cases e1 : ek M a (k + 1) (b : Int) with
            | true =>
              rw [ek_dn e1, e1] at hb2
              exact absurd rfl hb2
            | false =>
              cases e2 : ek M a k (b : Int) with
              | true => exact ⟨rfl, rfl⟩
              | false =>
                rw [e1, e2] at hb2
                exact absurd rfl hb2
          have := cn_imp' (p := fun s => ek M a (k + 1) (s : Int)) (q := fun s => ek M a k (s : Int)) (b := b) (n := M.1) (fun s _ hs => ek_dn hs) hb1 hk.1 hk.2
          exact Or.inr (by omega)
  rcases key (cn (fun s => usB M a (s : Int)) M.1) with ⟨i, h1, h2⟩ | z
  · intro j
    have e := ek_le (show i ≤ cn (fun s => usB M a (s : Int)) M.1 by omega) h
    have e2 := ek_st hW ha h2 j 0 h0
    exact ek_le (show j ≤ i + j by omega) (e2.trans e)
  · have := cn_pos (p := fun s => ek M a (cn (fun s => usB M a (s : Int)) M.1) (s : Int)) (b := 0) h0 h
    omega
noncomputable def lgA (M : MC) (a : Nat) : Int := if cn (fun s => usB M a (s : Int)) M.1 = 0 then -2 else match fs (fun k => !(ek M a (k + 1) 0)) (cn (fun s => usB M a (s : Int)) M.1) with
  | some k => (k : Int)
  | none => -3
theorem lgA_s {M : MC} {a v : Nat} (hW : MW a M) (ha : a ≤ 4) (h0 : 0 < M.1) (hc : cn (fun s => usB M a (s : Int)) M.1 ≠ 0) (h1 : ek M a v 0 = true) (h2 : ek M a (v + 1) 0 = false) : lgA M a = (v : Int) := by
  unfold lgA
  rw [if_neg hc]
  have : fs (fun k => !(ek M a (k + 1) 0)) (cn (fun s => usB M a (s : Int)) M.1) = some v := by
    rw [fs_some]
    refine ⟨?_, by rw [h2]; rfl, fun j hj => by rw [ek_le (show j + 1 ≤ v by omega) h1]; rfl⟩
    rcases Nat.lt_or_ge v (cn (fun s => usB M a (s : Int)) M.1) with z | z
    · exact z
    · have := ek_all hW ha h0 (ek_le z h1) (v + 1)
      rw [this] at h2
      cases h2
  rw [this]
theorem lgA_n {M : MC} {a v : Nat} (hc : cn (fun s => usB M a (s : Int)) M.1 ≠ 0) (hv : cn (fun s => usB M a (s : Int)) M.1 ≤ v) (h1 : ek M a v 0 = true) : lgA M a = -3 := by
  unfold lgA
  rw [if_neg hc]
  have : fs (fun k => !(ek M a (k + 1) 0)) (cn (fun s => usB M a (s : Int)) M.1) = none := by
    rw [fs_none]
    intro k hk
    rw [ek_le (show k + 1 ≤ v by omega) h1]
    rfl
  rw [this]
/-- where one can be after k letters over useful states -/
noncomputable def hk (M : MC) (a : Nat) : Nat → Int → Bool
  | 0, s => usB M a s && decide (s = 0)
  | k + 1, s => usB M a s && orL (fun t => hk M a k (t : Int) && orL (fun l => decide (fo M (t : Int) l = s)) a) M.1
theorem hk_d {M : MC} {a k : Nat} {s : Int} : hk M a (k + 1) s = true ↔ usB M a s = true ∧ ∃ t : Nat, t < M.1 ∧ hk M a k (t : Int) = true ∧ ∃ l, l < a ∧ fo M (t : Int) l = s := by
  show (usB M a s && orL (fun t => hk M a k (t : Int) && orL (fun l => decide (fo M (t : Int) l = s)) a) M.1) = true ↔ _
  rw [Bool.and_eq_true, orL_d]
  simp only [Bool.and_eq_true, orL_d, decide_eq_true_iff]
theorem hk_us {M : MC} {a : Nat} : ∀ {k : Nat} {s : Int}, hk M a k s = true → usB M a s = true
  | 0, s, h => by
    have : (usB M a s && decide (s = 0)) = true := h
    rw [Bool.and_eq_true] at this
    exact this.1
  | k + 1, _, h => (hk_d.mp h).1
theorem hk_ek {M : MC} {a : Nat} (hW : MW a M) (ha : a ≤ 4) (h0 : 0 < M.1) : ∀ {k j : Nat}, (∃ t : Nat, t < M.1 ∧ hk M a k (t : Int) = true ∧ ek M a j (t : Int) = true) ↔ ek M a (k + j) 0 = true
  | 0, j => by
    constructor
    · rintro ⟨t, h1, h2, h3⟩
      have : (usB M a (t : Int) && decide ((t : Int) = 0)) = true := h2
      rw [Bool.and_eq_true, decide_eq_true_iff] at this
      rw [Nat.zero_add, ← this.2]
      exact h3
    · intro h
      rw [Nat.zero_add] at h
      refine ⟨0, h0, ?_, h⟩
      show (usB M a 0 && decide ((0 : Int) = 0)) = true
      rw [ek_us h]
      rfl
  | k + 1, j => by
    rw [show k + 1 + j = k + (j + 1) by omega, ← hk_ek hW ha h0 (k := k) (j := j + 1)]
    constructor
    · rintro ⟨t, h1, h2, h3⟩
      obtain ⟨g1, s, g2, g3, l, g4, g5⟩ := hk_d.mp h2
      refine ⟨s, g2, g3, ek_d.mpr ⟨hk_us g3, l, g4, ?_⟩⟩
      rw [g5]
      exact h3
    · rintro ⟨s, h1, h2, h3⟩
      obtain ⟨g1, l, g2, g3⟩ := ek_d.mp h3
      rcases fo_r (s := (s : Int)) hW g2 ha with z | z
      · rw [z, ek_n] at g3
        cases g3
      · obtain ⟨t, ht⟩ : ∃ t : Nat, fo M (s : Int) l = t := ⟨(fo M (s : Int) l).toNat, by omega⟩
        rw [ht] at g3
        exact ⟨t, by omega, hk_d.mpr ⟨ek_us g3, s, h1, h2, l, g2, ht⟩, g3⟩
def updB (f : Nat → Bool) (i : Nat) (v : Bool) : Nat → Bool := fun j => if j = i then v else f j
theorem updB_s {f : Nat → Bool} {i : Nat} {v : Bool} : updB f i v i = v := by unfold updB; rw [if_pos rfl]
theorem updB_n {f : Nat → Bool} {i j : Nat} {v : Bool} (h : j ≠ i) : updB f i v j = f j := by unfold updB; rw [if_neg h]
theorem updB_t {f : Nat → Bool} {i j : Nat} (h : f j = true) : updB f i true j = true := by
  by_cases z : j = i
  · rw [z, updB_s]
  · rw [updB_n z]
    exact h
theorem cn_updB {f : Nat → Bool} {b n : Nat} (hb : b < n) (h : f b = false) : cn f n + 1 = cn (updB f b true) n := cn_off (p := updB f b true) (q := f) (b := b) hb (fun i _ hi => updB_n hi) updB_s h
