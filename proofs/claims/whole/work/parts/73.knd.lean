/-! kinds of states -/
def Nq (M : MC) (a : Nat) (s t : Int) : Prop := ∀ x, Lw a x → inM M (rl M s x) = inM M (rl M t x)
theorem Nq_r {M : MC} {a : Nat} {s : Int} : Nq M a s s := fun _ _ => rfl
theorem Nq_y {M : MC} {a : Nat} {s t : Int} (h : Nq M a s t) : Nq M a t s := fun x hx => (h x hx).symm
theorem Nq_t {M : MC} {a : Nat} {s t u : Int} (h : Nq M a s t) (h' : Nq M a t u) : Nq M a s u := fun x hx => (h x hx).trans (h' x hx)
theorem Nq_s {M : MC} {a l : Nat} {s t : Int} (hl : l < a) (h : Nq M a s t) : Nq M a (fo M s l) (fo M t l) := fun x hx => h (l :: x) (Lw_cons hl hx)
theorem Nq_m {M : MC} {a : Nat} {s t : Int} (h : Nq M a s t) : inM M s = inM M t := h [] (fun l hl => by simp at hl)
/-- a row of kinds that marks and letters keep tells states apart just so -/
theorem Nq_of {M : MC} {a n : Nat} {C : Nat → Bool} {z : Nat → Int} {k : Nat → Nat} {dl : Nat → Nat → Nat} (hd : ∀ s l, s < n → C s = true → l < a → dl s l < n ∧ C (dl s l) = true ∧ z (dl s l) = fo M (z s) l) (hm : ∀ s t, s < n → t < n → C s = true → C t = true → k s = k t → inM M (z s) = inM M (z t)) (hs : ∀ s t l, s < n → t < n → C s = true → C t = true → l < a → k s = k t → k (dl s l) = k (dl t l)) : ∀ (x : List Nat) {s t : Nat}, Lw a x → s < n → t < n → C s = true → C t = true → k s = k t → inM M (rl M (z s) x) = inM M (rl M (z t) x)
  | [], s, t, _, h1, h2, c1, c2, e => hm s t h1 h2 c1 c2 e
  | l :: x, s, t, hx, h1, h2, c1, c2, e => by
    obtain ⟨hl, hx⟩ := Lw_c hx
    obtain ⟨a1, a2, a3⟩ := hd s l h1 c1 hl
    obtain ⟨b1, b2, b3⟩ := hd t l h2 c2 hl
    show inM M (rl M (fo M (z s) l) x) = inM M (rl M (fo M (z t) l) x)
    rw [← a3, ← b3]
    exact Nq_of hd hm hs x hx a1 b1 a2 b2 (hs s t l h1 h2 c1 c2 hl e)
/-! the first of each kind -/
def isF (C : Nat → Bool) (k : Nat → Nat) (s : Nat) : Bool := C s && !(orL (fun t => C t && k t == k s) s)
theorem isF_d {C : Nat → Bool} {k : Nat → Nat} {s : Nat} : isF C k s = true ↔ C s = true ∧ ∀ t, t < s → C t = true → k t ≠ k s := by
  unfold isF
  rw [Bool.and_eq_true, Bool.not_eq_true']
  constructor
  · rintro ⟨h1, h2⟩
    refine ⟨h1, fun t ht hc e => ?_⟩
    have := orL_d (p := fun t => C t && k t == k s) (n := s) |>.mpr ⟨t, ht, by rw [hc, e]; simp⟩
    rw [h2] at this
    cases this
  · rintro ⟨h1, h2⟩
    refine ⟨h1, ?_⟩
    cases e : orL (fun t => C t && k t == k s) s with
    | false => rfl
    | true =>
      obtain ⟨t, t1, t2⟩ := orL_d.mp e
      rw [Bool.and_eq_true, beq_iff_eq] at t2
      exact absurd t2.2 (h2 t t1 t2.1)
theorem isF_ex {C : Nat → Bool} {k : Nat → Nat} : ∀ (s : Nat), C s = true → ∃ t, t ≤ s ∧ isF C k t = true ∧ k t = k s := by
  intro s
  induction s using Nat.strongRecOn with
  | _ s ih =>
    intro hc
    by_cases h : isF C k s = true
    · exact ⟨s, Nat.le_refl _, h, rfl⟩
    · have : ¬ ∀ t, t < s → C t = true → k t ≠ k s := fun hh => h (isF_d.mpr ⟨hc, hh⟩)
      obtain ⟨t, ht⟩ := Classical.not_forall.mp this
      obtain ⟨t1, ht⟩ := Classical.not_imp.mp ht
      obtain ⟨t2, t3⟩ := Classical.not_imp.mp ht
      have t3 := Classical.not_not.mp t3
      obtain ⟨u, u1, u2, u3⟩ := ih t t1 t2
      exact ⟨u, by omega, u2, by rw [u3, t3]⟩
theorem isF_u {C : Nat → Bool} {k : Nat → Nat} {s t : Nat} (hs : isF C k s = true) (ht : isF C k t = true) (e : k s = k t) : s = t := by
  obtain ⟨s1, s2⟩ := isF_d.mp hs
  obtain ⟨t1, t2⟩ := isF_d.mp ht
  rcases Nat.lt_trichotomy s t with z | z | z
  · exact absurd e (t2 s z s1)
  · exact z
  · exact absurd e.symm (s2 t z t1)
/-- finer kinds: no fewer; as many: the same -/
theorem isF_le {C : Nat → Bool} {k k' : Nat → Nat} {n : Nat} (hr : ∀ s t, s < n → t < n → C s = true → C t = true → k' s = k' t → k s = k t) : cn (isF C k) n ≤ cn (isF C k') n := cn_imp (fun s hs h => by
  obtain ⟨h1, h2⟩ := isF_d.mp h
  exact isF_d.mpr ⟨h1, fun t ht hc e => h2 t ht hc (hr t s (by omega) hs hc h1 e)⟩)
theorem isF_eq {C : Nat → Bool} {k k' : Nat → Nat} {n : Nat} (hr : ∀ s t, s < n → t < n → C s = true → C t = true → k' s = k' t → k s = k t) (hc : cn (isF C k') n ≤ cn (isF C k) n) : ∀ s t, s < n → t < n → C s = true → C t = true → k s = k t → k' s = k' t := by
  have hb : ∀ s, s < n → isF C k' s = true → isF C k s = true := by
    intro s hs h
    cases e : isF C k s with
    | true => rfl
    | false =>
      have := cn_imp' (p := isF C k) (q := isF C k') (b := s) (n := n) (fun s hs h => by
        obtain ⟨h1, h2⟩ := isF_d.mp h
        exact isF_d.mpr ⟨h1, fun t ht hc e => h2 t ht hc (hr t s (by omega) hs hc h1 e)⟩) hs h e
      omega
  intro s t hs ht cs ct e
  obtain ⟨s0, a1, a2, a3⟩ := isF_ex (k := k') s cs
  obtain ⟨t0, b1, b2, b3⟩ := isF_ex (k := k') t ct
  have c1 := (isF_d.mp a2).1
  have c2 := (isF_d.mp b2).1
  have e1 := hr s0 s (by omega) hs c1 cs a3
  have e2 := hr t0 t (by omega) ht c2 ct b3
  have := isF_u (hb s0 (by omega) a2) (hb t0 (by omega) b2) (by rw [e1, e2, e])
  rw [← a3, ← b3, this]
/-- kinds are numbered as they come -/
def FN (k : Nat → Nat) (n : Nat) : Prop := ∀ s, s < n → isF (fun _ => true) k s = true → k s = cn (isF (fun _ => true) k) s
theorem FN_lt {k : Nat → Nat} {n s m : Nat} (h : FN k n) (hs : s < n) (hm : s < m) : k s < cn (isF (fun _ => true) k) m := by
  obtain ⟨t, t1, t2, t3⟩ := isF_ex (C := fun _ => true) (k := k) s rfl
  rw [← t3, h t (by omega) t2]
  exact cn_lt (by omega) t2
theorem FN_ix {k : Nat → Nat} {n j : Nat} (h : FN k n) (hj : j < cn (isF (fun _ => true) k) n) : ∃ s, s < n ∧ isF (fun _ => true) k s = true ∧ k s = j ∧ ∀ t, t < s → k t < j := by
  obtain ⟨s, s1, s2, s3⟩ := cn_ix hj
  have := h s s1 s2
  exact ⟨s, s1, s2, by omega, fun t ht => by have := FN_lt h (show t < n by omega) ht; omega⟩
/-! a row of pairs is numbered -/
def nsq (q : Nat → Int × Int) : Nat → PR
  | 0 => P0
  | s + 1 => addP (nsq q s) (q s)
theorem nsq_s {q : Nat → Int × Int} {s : Nat} : nsq q (s + 1) = addP (nsq q s) (q s) := rfl
def nsk (q : Nat → Int × Int) (s : Nat) : Nat := numP (nsq q s) (q s)
theorem nsq_le {q : Nat → Int × Int} {s : Nat} : ∀ j, leP (nsq q s) (nsq q (s + j))
  | 0 => leP_r
  | j + 1 => by
    rw [show s + (j + 1) = (s + j) + 1 by omega, nsq_s]
    exact leP_t (nsq_le j) addP_le
theorem nsq_D {q : Nat → Int × Int} : ∀ s, DP (nsq q s)
  | 0 => fun i j hi => absurd hi (Nat.not_lt_zero i)
  | s + 1 => by
    rw [nsq_s]
    exact addP_DP (nsq_D s)
theorem nsq_o {q : Nat → Int × Int} : ∀ s i, i < (nsq q s).2 → ∃ t, t < s ∧ (nsq q s).1 i = q t
  | 0, i, h => absurd h (Nat.not_lt_zero i)
  | s + 1, i, h => by
    rw [nsq_s] at h ⊢
    rcases addP_d h with z | ⟨_, z, _⟩
    · obtain ⟨t, t1, t2⟩ := nsq_o s i z
      exact ⟨t, by omega, by rw [addP_le.2 i z]; exact t2⟩
    · exact ⟨s, by omega, z⟩
theorem nsk_at {q : Nat → Int × Int} {s m : Nat} (h : s < m) : nsk q s < (nsq q m).2 ∧ (nsq q m).1 (nsk q s) = q s := by
  have h1 := numP_ok (X := nsq q s) (q := q s)
  rw [← nsq_s] at h1
  have h2 := nsq_le (q := q) (s := s + 1) (m - (s + 1))
  rw [show s + 1 + (m - (s + 1)) = m by omega] at h2
  exact ⟨Nat.lt_of_lt_of_le h1.1 h2.1, (h2.2 _ h1.1).trans h1.2⟩
theorem nsk_eq {q : Nat → Int × Int} {s t : Nat} : nsk q s = nsk q t ↔ q s = q t := by
  have h1 := nsk_at (q := q) (s := s) (m := s + t + 1) (by omega)
  have h2 := nsk_at (q := q) (s := t) (m := s + t + 1) (by omega)
  constructor
  · intro e
    rw [← h1.2, e, h2.2]
  · intro e
    exact nsq_D _ _ _ h1.1 h2.1 (by rw [h1.2, h2.2, e])
theorem nsk_F {q : Nat → Int × Int} {s : Nat} : isF (fun _ => true) (nsk q) s = true ↔ hasP (nsq q s) (q s) = none := by
  rw [isF_d]
  constructor
  · rintro ⟨_, h⟩
    cases e : hasP (nsq q s) (q s) with
    | none => rfl
    | some i =>
      obtain ⟨i1, i2⟩ := hasP_some e
      obtain ⟨t, t1, t2⟩ := nsq_o s i i1
      exact absurd (nsk_eq.mpr (by rw [← t2, i2])) (h t t1 rfl)
  · intro e
    refine ⟨rfl, fun t ht _ h => ?_⟩
    have := nsk_at (q := q) ht
    exact hasP_none e _ this.1 (this.2.trans (nsk_eq.mp h))
theorem nsq_c {q : Nat → Int × Int} : ∀ s, (nsq q s).2 = cn (isF (fun _ => true) (nsk q)) s
  | 0 => rfl
  | s + 1 => by
    rw [nsq_s, cn_s, ← nsq_c s]
    cases e : hasP (nsq q s) (q s) with
    | none =>
      rw [if_pos (nsk_F.mpr e), (addP_none e).1]
    | some i =>
      rw [if_neg (fun h => by rw [nsk_F.mp h] at e; cases e), (addP_some e).1]
      rfl
theorem nsk_FN {q : Nat → Int × Int} {n : Nat} : FN (nsk q) n := fun s _ h => by
  rw [← nsq_c s]
  exact (addP_none (nsk_F.mp h)).2
/-! how many kinds there are -/
theorem cn_rel {p : Nat → Bool} {R : Nat → Nat → Prop} {m : Nat} : ∀ {n : Nat} {q : Nat → Bool}, (∀ k, k < n → p k = true → ∃ i, i < m ∧ q i = true ∧ R k i) → (∀ k k' i, k < n → k' < n → p k = true → p k' = true → R k i → R k' i → k = k') → cn p n ≤ cn q m
  | 0, _, _, _ => Nat.zero_le _
  | n + 1, q, h, hi => by
    rw [cn_s]
    by_cases z : p n = true
    · rw [if_pos z]
      obtain ⟨i, y1, y2, y3⟩ := h n (by omega) z
      have := cn_off (p := q) (q := updB q i false) (b := i) y1 (fun j _ hj => (updB_n hj).symm) y2 updB_s
      have := cn_rel (p := p) (R := R) (m := m) (n := n) (q := updB q i false) (fun k hk hp => by
        obtain ⟨j, x1, x2, x3⟩ := h k (by omega) hp
        refine ⟨j, x1, ?_, x3⟩
        rw [updB_n (fun e => by rw [e] at x3; have := hi k n i (by omega) (by omega) hp z x3 y3; omega)]
        exact x2) (fun k k' i h1 h2 => hi k k' i (by omega) (by omega))
      omega
    · rw [if_neg z, Nat.add_zero]
      exact cn_rel (fun k hk => h k (by omega)) (fun k k' i h1 h2 => hi k k' i (by omega) (by omega))
def NCp (M : MC) (a c : Nat) : Prop := ∃ (n : Nat) (C : Nat → Bool) (z : Nat → Int) (k : Nat → Nat), (∀ i, i < n → C i = true → Rc M a (z i)) ∧ (∀ s, Rc M a s → ∃ i, i < n ∧ C i = true ∧ z i = s) ∧ (∀ i j, i < n → j < n → C i = true → C j = true → (k i = k j ↔ Nq M a (z i) (z j))) ∧ c = cn (isF C k) n
theorem NCp_le {M : MC} {a c c' : Nat} (h : NCp M a c) (h' : NCp M a c') : c ≤ c' := by
  obtain ⟨n, C, z, k, h1, h2, h3, h4⟩ := h
  obtain ⟨n', C', z', k', g1, g2, g3, g4⟩ := h'
  rw [h4, g4]
  refine cn_rel (R := fun i j => i < n ∧ j < n' ∧ C i = true ∧ C' j = true ∧ Nq M a (z i) (z' j)) (fun i hi hp => ?_) (fun i i' j _ _ hp hp' hR hR' => ?_)
  · have hc := (isF_d.mp hp).1
    obtain ⟨j, j1, j2, j3⟩ := g2 (z i) (h1 i hi hc)
    obtain ⟨t, t1, t2, t3⟩ := isF_ex (k := k') j j2
    have ct := (isF_d.mp t2).1
    refine ⟨t, by omega, t2, hi, by omega, hc, ct, ?_⟩
    have := (g3 t j (by omega) j1 ct j2).mp t3
    rw [j3] at this
    exact Nq_y this
  · obtain ⟨a1, a2, a3, a4, a5⟩ := hR
    obtain ⟨b1, b2, b3, b4, b5⟩ := hR'
    exact isF_u hp hp' ((h3 i i' a1 b1 a3 b3).mpr (Nq_t a5 (Nq_y b5)))
theorem NCp_u {M : MC} {a c c' : Nat} (h : NCp M a c) (h' : NCp M a c') : c = c' := Nat.le_antisymm (NCp_le h h') (NCp_le h' h)
/-! the machine with a state for each kind -/
def TT (M : MC) (a : Nat) (T : MC) : Prop := ∃ z : Nat → Int, 0 < T.1 ∧ z 0 = 0 ∧ (∀ j, j < T.1 → T.2.1 j = if inM M (z j) then 1 else 2) ∧ (∀ j l, j < T.1 → l < a → ∃ i : Nat, i < T.1 ∧ T.2.2 (4 * j + l) = i ∧ Nq M a (z i) (fo M (z j) l)) ∧ (∀ i j, i < T.1 → j < T.1 → Nq M a (z i) (z j) → i = j) ∧ (∀ j, 0 < j → j < T.1 → ∃ k l, k < j ∧ l < a ∧ T.2.2 (4 * k + l) = (j : Nat) ∧ ∀ k' l', lx k' l' k l → l' < a → T.2.2 (4 * k' + l') < (j : Nat)) ∧ ∀ j l, j < T.1 → a ≤ l → l < 4 → T.2.2 (4 * j + l) = -1
theorem TT_z {M : MC} {a : Nat} {T T' : MC} {z z' : Nat → Int} (z0 : z 0 = 0) (z0' : z' 0 = 0) (p' : 0 < T'.1)
    (h4 : ∀ j l, j < T.1 → l < a → ∃ i : Nat, i < T.1 ∧ T.2.2 (4 * j + l) = i ∧ Nq M a (z i) (fo M (z j) l)) (h4' : ∀ j l, j < T'.1 → l < a → ∃ i : Nat, i < T'.1 ∧ T'.2.2 (4 * j + l) = i ∧ Nq M a (z' i) (fo M (z' j) l))
    (h5 : ∀ i j, i < T.1 → j < T.1 → Nq M a (z i) (z j) → i = j) (h5' : ∀ i j, i < T'.1 → j < T'.1 → Nq M a (z' i) (z' j) → i = j)
    (h6 : ∀ j, 0 < j → j < T.1 → ∃ k l, k < j ∧ l < a ∧ T.2.2 (4 * k + l) = (j : Nat) ∧ ∀ k' l', lx k' l' k l → l' < a → T.2.2 (4 * k' + l') < (j : Nat)) (h6' : ∀ j, 0 < j → j < T'.1 → ∃ k l, k < j ∧ l < a ∧ T'.2.2 (4 * k + l) = (j : Nat) ∧ ∀ k' l', lx k' l' k l → l' < a → T'.2.2 (4 * k' + l') < (j : Nat)) : ∀ j, j < T.1 → j < T'.1 ∧ Nq M a (z j) (z' j) := by
  intro j
  induction j using Nat.strongRecOn with
  | _ j ih =>
    intro hj
    rcases Nat.eq_zero_or_pos j with e | e
    · subst e
      rw [z0, z0']
      exact ⟨p', Nq_r⟩
    · obtain ⟨k, l, k1, k2, k3, k4⟩ := h6 j e hj
      obtain ⟨kk, kq⟩ := ih k k1 (by omega)
      obtain ⟨i, i1, i2, i3⟩ := h4 k l (by omega) k2
      have : i = j := by omega
      subst this
      obtain ⟨i', j1, j2, j3⟩ := h4' k l kk k2
      have hq : Nq M a (z i) (z' i') := Nq_t i3 (Nq_t (Nq_s k2 kq) (Nq_y j3))
      rcases Nat.lt_trichotomy i' i with y | y | y
      · obtain ⟨-, q'⟩ := ih i' y (by omega)
        have := h5 i' i (by omega) hj (Nq_t q' (Nq_y hq))
        omega
      · subst y
        exact ⟨j1, hq⟩
      · exfalso
        obtain ⟨k3', l3', m1, m2, m3, m4⟩ := h6' i e (by omega)
        have hlt : lx k3' l3' k l := by
          by_cases zz : lx k3' l3' k l
          · exact zz
          · by_cases ze : k3' = k ∧ l3' = l
            · obtain ⟨rfl, rfl⟩ := ze
              rw [m3] at j2
              omega
            · have := m4 k l (by unfold lx at *; omega) k2
              omega
        have hk3 : k3' ≤ k := by unfold lx at hlt; omega
        obtain ⟨n1, n2⟩ := ih k3' (by omega) (by omega)
        obtain ⟨x, x1, x2, x3⟩ := h4 k3' l3' (by omega) m2
        obtain ⟨x', y1, y2, y3⟩ := h4' k3' l3' n1 m2
        have hxi : x' = i := by omega
        subst hxi
        have hxlt := k4 k3' l3' hlt m2
        obtain ⟨w1, w2⟩ := ih x (by omega) x1
        have hqq : Nq M a (z' x) (z' x') := Nq_t (Nq_y w2) (Nq_t x3 (Nq_t (Nq_s m2 n2) (Nq_y y3)))
        have := h5' x x' w1 (by omega) hqq
        omega
theorem TT_u {M : MC} {a : Nat} {T T' : MC} (h : TT M a T) (h' : TT M a T') : T.1 = T'.1 ∧ (∀ s, s < T.1 → T.2.1 s = T'.2.1 s) ∧ ∀ i, i < 4 * T.1 → T.2.2 i = T'.2.2 i := by
  obtain ⟨z, p, z0, h3, h4, h5, h6, h7⟩ := h
  obtain ⟨z', p', z0', h3', h4', h5', h6', h7'⟩ := h'
  have A := TT_z z0 z0' p' h4 h4' h5 h5' h6 h6'
  have B := TT_z z0' z0 p h4' h4 h5' h5 h6' h6
  have hc : T.1 = T'.1 := by
    rcases Nat.lt_trichotomy T.1 T'.1 with y | y | y
    · have := (B T.1 y).1
      omega
    · exact y
    · have := (A T'.1 y).1
      omega
  refine ⟨hc, fun s hs => ?_, fun i hi => ?_⟩
  · rw [h3 s hs, h3' s (by omega), Nq_m (A s hs).2]
  · have ei : i = 4 * (i / 4) + i % 4 := by omega
    rw [ei]
    have hj : i / 4 < T.1 := by omega
    rcases Nat.lt_or_ge (i % 4) a with y | y
    · obtain ⟨x, x1, x2, x3⟩ := h4 (i / 4) (i % 4) hj y
      obtain ⟨x', y1, y2, y3⟩ := h4' (i / 4) (i % 4) (by omega) y
      have : x = x' := h5' x x' (by omega) y1 (Nq_t (Nq_y (A x x1).2) (Nq_t x3 (Nq_t (Nq_s y (A (i / 4) hj).2) (Nq_y y3))))
      rw [x2, y2, this]
    · rw [h7 _ _ hj y (by omega), h7' _ _ (by omega) y (by omega)]
