/-! what both hold between calls -/
abbrev TE := Nat × (Nat → Nat) × (Nat → Int)
abbrev TN := Nat × (Nat → Nat)
def Exx (ex : TE) : Nat → Int → Prop := ExR ex.2.1 ex.2.2 ex.1 (-1)
theorem ExR_eq {e : Nat → Nat} {b b' : Nat → Int} {c : Nat} {lo : Int} (h : ∀ i, i < c → b i = b' i) : ExR e b c lo = ExR e b' c lo := by
  funext w x
  apply propext
  constructor
  · rintro ⟨i, h1, h2, h3, h4⟩
    exact ⟨i, h1, h2, h3, by rw [← h i h1]; exact h4⟩
  · rintro ⟨i, h1, h2, h3, h4⟩
    exact ⟨i, h1, h2, h3, by rw [h i h1]; exact h4⟩
/-- the mark of a word, the node of a word -/
def mkX (ex : TE) (w : Nat) : Int := if orL (fun i => ex.2.1 i == w && ex.2.2 i == 1) ex.1 then 1 else if orL (fun i => ex.2.1 i == w) ex.1 then 2 else 0
def noX (tn : TN) (w : Nat) : Int := match fs (fun i => tn.2 i == w) tn.1 with
  | some i => (i : Int)
  | none => -1
def cF0 (ex : TE) (tn : TN) : FS := (fun k => k, fun k => if k < tn.1 then mkX ex (tn.2 k) else 0, fun k => if k = 0 then 1 else 0, fun i => if i < 4 * tn.1 then noX tn (lw (tn.2 (i / 4)) (i % 4)) else -1)
theorem noX_F {tn : TN} {w : Nat} {r : Int} (hs : Srt tn.2 tn.1) (h : noF tn.2 tn.1 w r) : r = noX tn w := by
  unfold noX
  cases e : fs (fun i => tn.2 i == w) tn.1 with
  | some i =>
    obtain ⟨i1, i2, _⟩ := fs_some.mp e
    exact h.1 i i1 (by simpa using i2)
  | none =>
    refine h.2 (fun i hi e' => ?_)
    have := fs_none.mp e i hi
    rw [e'] at this
    simp at this
theorem mkX_M {ex : TE} {tn : TN} {mk : Nat → Int} (hu : ∀ i j, i < ex.1 → j < ex.1 → ex.2.1 i = ex.2.1 j → i = j) (h : TM tn.2 tn.1 mk (Exx ex)) : ∀ k, k < tn.1 → mk k = mkX ex (tn.2 k) := by
  intro k hk
  obtain ⟨h1, h2⟩ := h k hk
  unfold mkX
  by_cases z : orL (fun i => ex.2.1 i == tn.2 k && ex.2.2 i == 1) ex.1 = true
  · rw [if_pos z]
    obtain ⟨i, i1, i2⟩ := orL_d.mp z
    rw [Bool.and_eq_true, beq_iff_eq, beq_iff_eq] at i2
    have := h1 1 ⟨i, i1, by omega, i2.1, i2.2⟩
    rw [if_pos rfl] at this
    exact this
  · rw [if_neg z]
    by_cases z2 : orL (fun i => ex.2.1 i == tn.2 k) ex.1 = true
    · rw [if_pos z2]
      obtain ⟨i, i1, i2⟩ := orL_d.mp z2
      rw [beq_iff_eq] at i2
      have := h1 (ex.2.2 i) ⟨i, i1, by omega, i2, rfl⟩
      rw [if_neg (fun e => z (orL_d.mpr ⟨i, i1, by rw [i2, e]; simp⟩))] at this
      exact this
    · rw [if_neg z2]
      refine h2 (fun v hv => ?_)
      obtain ⟨i, i1, _, i2, _⟩ := hv
      exact z2 (orL_d.mpr ⟨i, i1, by rw [i2]; simp⟩)
theorem cF0_T0 {ex : TE} {tn : TN} {mk ch : Nat → Int} (hs : Srt tn.2 tn.1) (hu : ∀ i j, i < ex.1 → j < ex.1 → ex.2.1 i = ex.2.1 j → i = j) (h1 : TM tn.2 tn.1 mk (Exx ex)) (h2 : TC tn.2 tn.1 ch) : T0 tn.1 (cF0 ex tn) mk ch := by
  refine ⟨fun k hk => ⟨rfl, ?_, rfl⟩, fun i hi => ?_⟩
  · show (if k < tn.1 then mkX ex (tn.2 k) else 0) = mk k
    rw [if_pos hk, mkX_M hu h1 k hk]
  · show (if i < 4 * tn.1 then noX tn (lw (tn.2 (i / 4)) (i % 4)) else -1) = ch i
    rw [if_pos hi]
    have := noX_F hs (h2 (i / 4) (i % 4) (by omega) (by omega))
    rw [show 4 * (i / 4) + i % 4 = i by omega] at this
    exact this.symm
theorem mkX_b (ex : TE) (w : Nat) : mkX ex w = 0 ∨ mkX ex w = 1 ∨ mkX ex w = 2 := by
  unfold mkX
  split
  · omega
  · split <;> omega
theorem noX_b (tn : TN) (w : Nat) : -1 ≤ noX tn w ∧ noX tn w < tn.1 := by
  unfold noX
  cases e : fs (fun i => tn.2 i == w) tn.1 with
  | some i =>
    have := (fs_some.mp e).1
    exact ⟨by show (-1 : Int) ≤ i; omega, by show (i : Int) < tn.1; omega⟩
  | none => exact ⟨by decide, by show (-1 : Int) < tn.1; omega⟩
theorem cF0_FI {ex : TE} {tn : TN} : FI tn.1 (cF0 ex tn) := by
  refine ⟨fun k _ => Nat.le_refl _, fun k hk => ?_, fun k hk => ?_, fun i hi => ?_⟩
  · show (if k < tn.1 then mkX ex (tn.2 k) else 0) = 0 ∨ (if k < tn.1 then mkX ex (tn.2 k) else 0) = 1 ∨ (if k < tn.1 then mkX ex (tn.2 k) else 0) = 2
    rw [if_pos hk]
    exact mkX_b _ _
  · show ok01 (if k = 0 then 1 else 0)
    split
    · exact ok01_1
    · exact ok01_0
  · show -1 ≤ (if i < 4 * tn.1 then noX tn (lw (tn.2 (i / 4)) (i % 4)) else -1) ∧ (if i < 4 * tn.1 then noX tn (lw (tn.2 (i / 4)) (i % 4)) else -1) < (tn.1 : Int)
    rw [if_pos hi]
    exact noX_b _ _
/-- letters of nodes -/
theorem lt_last {w : Nat} (hw : wf w) (h0 : 0 < wl w) : lt w (wl w - 1) = w % 4 := by
  unfold lt
  rw [show 2 * (wl w - 1 - (wl w - 1)) = 0 by omega, Nat.pow_zero, Nat.div_one]
theorem lt_bg {w n p : Nat} (hw : wf w) (hn : n ≤ wl w) (hp : p < n) : lt (bg w n) p = lt w p := by
  have h1 := wl_bg hw hn
  have h2 := wc_bg hw hn
  have hw10 := hw.1
  rw [lt_wc (by omega) (by omega), lt_wc hw10 (by omega), h1, h2, Nat.div_div_eq_div_mul, ← Nat.pow_add]
  congr 3
  omega
def TNo (a : Nat) (ex : TE) (tn : TN) : Prop := tn.1 ≤ 120 ∧ ND tn.2 tn.1 ∧ (∀ x, Mm tn.2 tn.1 x ↔ Pf (fun w => ∃ v, Exx ex w v) x) ∧ ∀ i, i < ex.1 → okw a (ex.2.1 i)
theorem TNo_l {a : Nat} {ex : TE} {tn : TN} (h : TNo a ex tn) : ∀ k, 0 < k → k < tn.1 → tn.2 k % 4 < a := by
  intro k h0 hk
  have hwf := (h.2.1.2.2.2 k hk).1
  have hwl := ((h.2.1.2.2.2 k hk).2 h0).1
  rcases (h.2.2.1 (tn.2 k)).mp ⟨k, hk, rfl⟩ with z | ⟨w, ⟨v, i, i1, _, i2, _⟩, j, j1, j2, j3⟩
  · rw [z] at hwl
    exact absurd hwl (by decide)
  · have hok := h.2.2.2 i i1
    rw [i2] at hok
    have hww := okw_wf hok
    have e1 := wl_bg hww j2
    rw [← j3] at e1
    rw [← lt_last hwf hwl, e1, j3, lt_bg hww j2 (by omega)]
    exact hok.2.2 (j - 1) (by omega)
theorem cF0_LA {a : Nat} {ex : TE} {tn : TN} (ha : a ≤ 4) (h : TNo a ex tn) : LA tn.1 a (cF0 ex tn) := by
  intro k l hk h1 h2
  show (if 4 * k + l < 4 * tn.1 then noX tn (lw (tn.2 ((4 * k + l) / 4)) ((4 * k + l) % 4)) else -1) = -1
  rw [if_pos (by omega), show (4 * k + l) / 4 = k by omega, show (4 * k + l) % 4 = l by omega]
  unfold noX
  cases e : fs (fun i => tn.2 i == lw (tn.2 k) l) tn.1 with
  | none => rfl
  | some i =>
    obtain ⟨i1, i2, _⟩ := fs_some.mp e
    have i2 : tn.2 i = lw (tn.2 k) l := by simpa using i2
    exfalso
    have hwi := (h.2.1.2.2.2 i i1).1
    have hw9 : wl (tn.2 k) ≤ 9 := by
      have := wl_lw (w := tn.2 k) (l := l) (by omega)
      rw [← i2] at this
      have := hwi.1
      omega
    have hlw := lw_bg (h.2.1.2.2.2 k hk).1 hw9 h2
    rw [← i2] at hlw
    have hi0 : 0 < i := by
      rcases Nat.eq_zero_or_pos i with z | z
      · rw [z, h.2.1.2.2.1] at hlw
        have := hlw.2.1
        rw [show wl 0 = 0 from rfl] at this
        omega
      · exact z
    have := TNo_l h i hi0 i1
    omega
theorem cF0_congr {ex ex' : TE} {n : Nat} {f f' : Nat → Nat} (h1 : ex'.1 = ex.1) (h2 : ∀ i, i < ex.1 → ex'.2.1 i = ex.2.1 i ∧ ex'.2.2 i = ex.2.2 i) (hf : ∀ k, k < n → f' k = f k) : cF0 ex' (n, f') = cF0 ex (n, f) := by
  have orc : ∀ (p q : Nat → Bool) m, (∀ i, i < m → p i = q i) → orL p m = orL q m := by
    intro p q m
    induction m with
    | zero => intro _; rfl
    | succ m ih => intro h; rw [orL_s, orL_s, ih (fun i hi => h i (by omega)), h m (by omega)]
  have mke : ∀ w, mkX ex' w = mkX ex w := by
    intro w
    unfold mkX
    rw [h1, orc (fun i => ex'.2.1 i == w && ex'.2.2 i == 1) (fun i => ex.2.1 i == w && ex.2.2 i == 1) ex.1 (fun i hi => by rw [(h2 i hi).1, (h2 i hi).2]), orc (fun i => ex'.2.1 i == w) (fun i => ex.2.1 i == w) ex.1 (fun i hi => by rw [(h2 i hi).1])]
  have fse : ∀ w m, m ≤ n → fs (fun i => f' i == w) m = fs (fun i => f i == w) m := by
    intro w m
    induction m with
    | zero => intro _; rfl
    | succ m ih => intro hm; rw [fs_s, fs_s, ih (by omega), hf m (by omega)]
  have noe : ∀ w, noX (n, f') w = noX (n, f) w := by
    intro w
    unfold noX
    show (match fs (fun i => f' i == w) n with | some i => (i : Int) | none => -1) = (match fs (fun i => f i == w) n with | some i => (i : Int) | none => -1)
    rw [fse w n (Nat.le_refl _)]
  unfold cF0
  congr 2
  · funext k
    show (if k < n then mkX ex' (f' k) else 0) = (if k < n then mkX ex (f k) else 0)
    by_cases z : k < n
    · rw [if_pos z, if_pos z, hf k z, mke]
    · rw [if_neg z, if_neg z]
  · congr 1
    funext i
    show (if i < 4 * n then noX (n, f') (lw (f' (i / 4)) (i % 4)) else -1) = (if i < 4 * n then noX (n, f) (lw (f (i / 4)) (i % 4)) else -1)
    by_cases z : i < 4 * n
    · rw [if_pos z, if_pos z, hf (i / 4) (by omega), noe]
    · rw [if_neg z, if_neg z]
/-! the two -/
def Cin (st : St) (tp : Nat × (Nat → Int)) (a : Nat) (ex : TE) (tn : TN) (D : List Dd) (F : FS) (M1 M2 M3 : MC) (L : List Nat) (t : Nat) (fa : Int) : Prop :=
  (st 1 1 = (tp.1 : Nat) ∧ ∀ i, i < tp.1 → st 2 i = tp.2 i) ∧ st 0 15 = (a : Nat) ∧ (st 5 2 = (ex.1 : Nat) ∧ ∀ i, i < ex.1 → st 6 i = (ex.2.1 i : Nat) ∧ st 7 i = ex.2.2 i) ∧ (st 8 4 = (tn.1 : Nat) ∧ (∀ k, k < tn.1 → st 9 k = (tn.2 k : Nat)) ∧ TM tn.2 tn.1 (st 10) (Exx ex) ∧ TP tn.2 tn.1 (st 11) ∧ TC tn.2 tn.1 (st 12)) ∧ LC st 13 tn.1 (cF0 ex tn) D F ∧ (MCc st 57 8 M1 ∧ MCc st 60 40 M2 ∧ MCc st 63 201 M3) ∧ WRc st L ∧ st 66 9 = (t : Nat) ∧ st 0 16 = fa
def Min (st : St) (tp : Nat × (Nat → Int)) (a : Nat) (ex : TE) (tn : TN) (D : List Dd) (F : FS) (M1 M2 M3 : MC) (L : List Nat) (t : Nat) (fa : Int) : Prop :=
  (st 99 1 = (tp.1 : Nat) ∧ ∀ i, i < tp.1 → st 100 i = w8 (tp.2 i)) ∧ st 99 2 = (a : Nat) ∧ (st 99 8 = (ex.1 : Nat) ∧ ∀ i, i < ex.1 → st 101 i = (wl (ex.2.1 i) : Nat) ∧ st 102 i = (wc (ex.2.1 i) : Nat) ∧ st 103 i = ex.2.2 i) ∧ (st 99 14 = (tn.1 : Nat) ∧ (∀ k, k < tn.1 → st 104 k = (wl (tn.2 k) : Nat) ∧ st 105 k = (wc (tn.2 k) : Nat)) ∧ TM tn.2 tn.1 (st 106) (Exx ex) ∧ TP tn.2 tn.1 (st 107) ∧ TC tn.2 tn.1 (st 108)) ∧ LM st tn.1 a D F ∧ (MCm st 1 M1 ∧ MCm st 2 M2 ∧ MCm st 3 M3) ∧ WRm st L ∧ st 99 40 = (t : Nat) ∧ st 99 42 = fa
def Pur (tp : Nat × (Nat → Int)) (a : Nat) (ex : TE) (tn : TN) (D : List Dd) (F : FS) (M1 M2 M3 : MC) (L : List Nat) (t : Nat) : Prop :=
  (tp.1 ≤ 800 ∧ ∀ i, i < tp.1 → 0 ≤ tp.2 i ∧ tp.2 i ≤ 255) ∧ (1 ≤ a ∧ a ≤ 4) ∧ (ex.1 ≤ 40 ∧ (∀ i, i < ex.1 → ok01 (ex.2.2 i)) ∧ Srt ex.2.1 ex.1) ∧ TNo a ex tn ∧ Rp tn.1 (cF0 ex tn) D F ∧ (MW a M1 ∧ MW a M2 ∧ MW a M3) ∧ (M1.1 ≤ 8 ∧ M2.1 ≤ 40 ∧ M3.1 ≤ 200 ∧ (M3.1 ≤ 199 ∨ ∀ s l, s < M3.1 → l < a → 0 ≤ M3.2.2 (4 * s + l))) ∧ L.length ≤ 3618 ∧ t ≤ 50000
def INV (st : St) : Prop := ∃ (tp : Nat × (Nat → Int)) (a : Nat) (ex : TE) (tn : TN) (D : List Dd) (F : FS) (M1 M2 M3 : MC) (L : List Nat) (t : Nat) (fa : Int), Cin st tp a ex tn D F M1 M2 M3 L t fa ∧ Min st tp a ex tn D F M1 M2 M3 L t fa ∧ Pur tp a ex tn D F M1 M2 M3 L t
theorem LC_congr {st st' : St} {o n : Nat} {F0 F : FS} {D : List Dd} (h : LC st o n F0 D F) (e : ∀ q i, (q = o ∧ i = 10) ∨ (q = o + 1 ∧ i ≠ 13) ∨ (o + 2 ≤ q ∧ q ≤ o + 7) ∨ (o + 14 ≤ q ∧ q ≤ o + 17) → st' q i = st q i) : LC st' o n F0 D F := by
  obtain ⟨⟨c1, c2, c3, c4, c5⟩, h2, ⟨J, j1, j2, j3⟩, h4, h5⟩ := h
  refine ⟨⟨?_, fun k hk => ?_, fun k hk => ?_, ?_, ?_⟩, h2, ⟨J, ?_, j2, CD_congr (fun i _ => ⟨?_, ?_, ?_, ?_⟩) (fun i _ => ⟨?_, ?_⟩) j3⟩, ?_, h5⟩
  · rw [e (o + 1) 9 (by omega)]; exact c1
  · rw [e (o + 1 + 1) k (by omega), e (o + 1 + 2) k (by omega), e (o + 1 + 3) k (by omega)]; exact c2 k hk
  · rw [e (o + 1 + 4) k (by omega)]; exact c3 k hk
  · rw [e (o + 1) 10 (by omega)]; exact c4
  · rw [e (o + 1) 11 (by omega)]; exact c5
  · rw [e (o + 1) 12 (by omega)]; exact j1
  · exact e _ i (by omega)
  · exact e _ i (by omega)
  · exact e _ i (by omega)
  · exact e _ i (by omega)
  · exact e _ i (by omega)
  · exact e _ i (by omega)
  · rw [e o 10 (by omega)]; exact h4
theorem LM_congr {st st' : St} {n q : Nat} {F : FS} {D : List Dd} (h : LM st n q D F) (e : ∀ x i, (x = 99 ∧ (i = 2 ∨ i = 14 ∨ i = 19 ∨ i = 24 ∨ i = 29)) ∨ (109 ≤ x ∧ x ≤ 112) ∨ x = 118 → st' x i = st x i) : LM st' n q D F := by
  obtain ⟨h1, h2, h3, ⟨J, j1, j2⟩, h5, h6, h7⟩ := h
  refine ⟨MR_congr h1 (e 99 14 (by omega)) (e 99 2 (by omega)) (e 99 19 (by omega)) (fun j a b => by funext i; exact e j i (by omega)), h2, h3, ⟨J, by rw [e 99 24 (by omega)]; exact j1, j2⟩, DA_congr h5 (fun i _ => e 118 i (by omega)), by rw [e 99 29 (by omega)]; exact h6, h7⟩
/-- what matters of the class's cells; of the reference's -/
def rC (q i : Nat) : Prop := (q = 0 ∧ (i = 15 ∨ i = 16)) ∨ (q = 1 ∧ i = 1) ∨ q = 2 ∨ (q = 3 ∧ i = 1) ∨ (4 ≤ q ∧ q ≤ 12) ∨ (q = 13 ∧ i = 10) ∨ (q = 14 ∧ i ≠ 13) ∨ (15 ≤ q ∧ q ≤ 20) ∨ (27 ≤ q ∧ q ≤ 30) ∨ (57 ≤ q ∧ q ≤ 65) ∨ (q = 66 ∧ i = 9)
def rM (q i : Nat) : Prop := (q = 99 ∧ (i = 1 ∨ i = 2 ∨ i = 8 ∨ i = 14 ∨ i = 19 ∨ i = 24 ∨ i = 29 ∨ i = 40 ∨ i = 42 ∨ i = 62)) ∨ (100 ≤ q ∧ q ≤ 112) ∨ q = 118 ∨ (q = 119 ∧ 1 ≤ i ∧ i ≤ 3) ∨ (q = 120 ∧ 200 ≤ i ∧ i < 800) ∨ (q = 121 ∧ 800 ≤ i ∧ i < 3200) ∨ q = 144
section CG
variable {st st' : St} {tp : Nat × (Nat → Int)} {a : Nat} {ex : TE} {tn : TN} {D : List Dd} {F : FS} {M1 M2 M3 : MC} {L : List Nat} {t : Nat} {fa : Int}
theorem Cin_congr (h : Cin st tp a ex tn D F M1 M2 M3 L t fa) (e : ∀ q i, rC q i → st' q i = st q i) : Cin st' tp a ex tn D F M1 M2 M3 L t fa := by
  obtain ⟨⟨h1, h1'⟩, h2, ⟨h3, h3'⟩, ⟨h4, h4', h5, h6, h7⟩, h8, ⟨h9, h10, h11⟩, ⟨h12, h12'⟩, h13, h14⟩ := h
  have f10 : st' 10 = st 10 := by funext i; exact e 10 i (by unfold rC; omega)
  have f11 : st' 11 = st 11 := by funext i; exact e 11 i (by unfold rC; omega)
  have f12 : st' 12 = st 12 := by funext i; exact e 12 i (by unfold rC; omega)
  refine ⟨⟨?_, fun i hi => ?_⟩, ?_, ⟨?_, fun i hi => ?_⟩, ⟨?_, fun k hk => ?_, ?_, ?_, ?_⟩, LC_congr h8 (fun q i hq => e q i (by unfold rC; omega)), ⟨MCc_congr h9 (fun q a b => ?_), MCc_congr h10 (fun q a b => ?_), MCc_congr h11 (fun q a b => ?_)⟩, ⟨?_, fun i hi => ?_⟩, ?_, ?_⟩
  · rw [e 1 1 (by unfold rC; omega)]; exact h1
  · rw [e 2 i (by unfold rC; omega)]; exact h1' i hi
  · rw [e 0 15 (by unfold rC; omega)]; exact h2
  · rw [e 5 2 (by unfold rC; omega)]; exact h3
  · rw [e 6 i (by unfold rC; omega), e 7 i (by unfold rC; omega)]; exact h3' i hi
  · rw [e 8 4 (by unfold rC; omega)]; exact h4
  · rw [e 9 k (by unfold rC; omega)]; exact h4' k hk
  · rw [f10]; exact h5
  · rw [f11]; exact h6
  · rw [f12]; exact h7
  · funext i; exact e q i (by unfold rC; omega)
  · funext i; exact e q i (by unfold rC; omega)
  · funext i; exact e q i (by unfold rC; omega)
  · rw [e 3 1 (by unfold rC; omega)]; exact h12
  · rw [e 4 i (by unfold rC; omega)]; exact h12' i hi
  · rw [e 66 9 (by unfold rC; omega)]; exact h13
  · rw [e 0 16 (by unfold rC; omega)]; exact h14
theorem Min_congr (h : Min st tp a ex tn D F M1 M2 M3 L t fa) (e : ∀ q i, rM q i → st' q i = st q i) : Min st' tp a ex tn D F M1 M2 M3 L t fa := by
  obtain ⟨⟨h1, h1'⟩, h2, ⟨h3, h3'⟩, ⟨h4, h4', h5, h6, h7⟩, h8, ⟨h9, h10, h11⟩, ⟨h12, h12'⟩, h13, h14⟩ := h
  have f10 : st' 106 = st 106 := by funext i; exact e 106 i (by unfold rM; omega)
  have f11 : st' 107 = st 107 := by funext i; exact e 107 i (by unfold rM; omega)
  have f12 : st' 108 = st 108 := by funext i; exact e 108 i (by unfold rM; omega)
  refine ⟨⟨?_, fun i hi => ?_⟩, ?_, ⟨?_, fun i hi => ?_⟩, ⟨?_, fun k hk => ?_, ?_, ?_, ?_⟩, LM_congr h8 (fun q i hq => e q i (by unfold rM; omega)), ⟨MCm_congr h9 ?_ (fun i a b => ?_) (fun i a b => ?_), MCm_congr h10 ?_ (fun i a b => ?_) (fun i a b => ?_), MCm_congr h11 ?_ (fun i a b => ?_) (fun i a b => ?_)⟩, ⟨?_, fun i hi => ?_⟩, ?_, ?_⟩
  · rw [e 99 1 (by unfold rM; omega)]; exact h1
  · rw [e 100 i (by unfold rM; omega)]; exact h1' i hi
  · rw [e 99 2 (by unfold rM; omega)]; exact h2
  · rw [e 99 8 (by unfold rM; omega)]; exact h3
  · rw [e 101 i (by unfold rM; omega), e 102 i (by unfold rM; omega), e 103 i (by unfold rM; omega)]; exact h3' i hi
  · rw [e 99 14 (by unfold rM; omega)]; exact h4
  · rw [e 104 k (by unfold rM; omega), e 105 k (by unfold rM; omega)]; exact h4' k hk
  · rw [f10]; exact h5
  · rw [f11]; exact h6
  · rw [f12]; exact h7
  · exact e 119 1 (by unfold rM; omega)
  · exact e 120 i (by unfold rM; omega)
  · exact e 121 i (by unfold rM; omega)
  · exact e 119 2 (by unfold rM; omega)
  · exact e 120 i (by unfold rM; omega)
  · exact e 121 i (by unfold rM; omega)
  · exact e 119 3 (by unfold rM; omega)
  · exact e 120 i (by unfold rM; omega)
  · exact e 121 i (by unfold rM; omega)
  · rw [e 99 62 (by unfold rM; omega)]; exact h12
  · rw [e 144 i (by unfold rM; omega)]; exact h12' i hi
  · rw [e 99 40 (by unfold rM; omega)]; exact h13
  · rw [e 99 42 (by unfold rM; omega)]; exact h14
end CG
/-- class and reference do not meet -/
def gC (j : Nat) : Prop := j < 99
def gM (j : Nat) : Prop := 99 ≤ j ∧ j < 146
theorem Gc_C : Gc gC := by
  have : ∀ o, o < 99 → ∀ b, b < 200 → offOK (kl o) b = true → o + b < 99 := by decide +kernel
  have hb : ∀ k, k < 60 → ∀ b ∈ fkL.getD k [], b < 200 := by decide +kernel
  intro o b ho h
  refine this o ho b ?_ h
  unfold offOK at h
  rw [List.any_eq_true] at h
  obtain ⟨x, x1, x2⟩ := h
  have : x = b := of_decide_eq_true x2
  subst this
  have hk : ∀ o, o < 99 → kl o < 60 := by decide +kernel
  exact hb _ (hk o ho) x x1
theorem Gc_M : Gc gM := by
  have : ∀ o, o < 146 → 99 ≤ o → ∀ b, b < 200 → offOK (kl o) b = true → o + b < 146 := by decide +kernel
  have hb : ∀ k, k < 60 → ∀ b ∈ fkL.getD k [], b < 200 := by decide +kernel
  intro o b ho h
  refine ⟨by have := ho.1; omega, this o ho.2 ho.1 b ?_ h⟩
  unfold offOK at h
  rw [List.any_eq_true] at h
  obtain ⟨x, x1, x2⟩ := h
  have : x = b := of_decide_eq_true x2
  subst this
  have hk : ∀ o, o < 146 → kl o < 60 := by decide +kernel
  exact hb _ (hk o ho.2) x x1
