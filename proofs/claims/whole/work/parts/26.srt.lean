/-! rising rows of numbers; beginnings of words -/
def Srt (f : Nat → Nat) (n : Nat) : Prop := ∀ i j, i < j → j < n → f i < f j
def Mm (f : Nat → Nat) (n x : Nat) : Prop := ∃ i, i < n ∧ f i = x
def Cp (m : Nat) (S : Nat → Prop) : Prop := ∀ (f : Nat → Nat) (n : Nat), Srt f n → (∀ i, i < n → S (f i)) → n ≤ m
def insN (f : Nat → Nat) (p v i : Nat) : Nat := if i < p then f i else if i = p then v else f (i - 1)
theorem Srt_ins {f : Nat → Nat} {n p v : Nat} (h : Srt f n) (hp : p ≤ n) (h1 : ∀ i, i < p → f i < v) (h2 : ∀ i, p ≤ i → i < n → v < f i) : Srt (insN f p v) (n + 1) := by
  intro i j hij hj
  unfold insN
  by_cases a : i < p
  · rw [if_pos a]
    by_cases b : j < p
    · rw [if_pos b]
      exact h i j hij (by omega)
    · rw [if_neg b]
      by_cases c : j = p
      · rw [if_pos c]
        exact h1 i a
      · rw [if_neg c]
        exact Nat.lt_trans (h1 i a) (h2 (j - 1) (by omega) (by omega))
  · rw [if_neg a, if_neg (show ¬ j < p by omega), if_neg (show ¬ j = p by omega)]
    by_cases c : i = p
    · rw [if_pos c]
      exact h2 (j - 1) (by omega) (by omega)
    · rw [if_neg c]
      exact h (i - 1) (j - 1) (by omega) (by omega)
theorem Mm_ins {f : Nat → Nat} {n p v x : Nat} (hp : p ≤ n) : Mm (insN f p v) (n + 1) x ↔ Mm f n x ∨ x = v := by
  constructor
  · rintro ⟨i, hi, rfl⟩
    unfold insN
    by_cases a : i < p
    · rw [if_pos a]
      exact Or.inl ⟨i, by omega, rfl⟩
    · rw [if_neg a]
      by_cases c : i = p
      · rw [if_pos c]
        exact Or.inr rfl
      · rw [if_neg c]
        exact Or.inl ⟨i - 1, by omega, rfl⟩
  · rintro (⟨i, hi, rfl⟩ | rfl)
    · by_cases a : i < p
      · exact ⟨i, by omega, by unfold insN; rw [if_pos a]⟩
      · exact ⟨i + 1, by omega, by unfold insN; rw [if_neg (by omega), if_neg (by omega)]; rfl⟩
    · exact ⟨p, by omega, by unfold insN; rw [if_neg (by omega), if_pos rfl]⟩
theorem Srt_le {f : Nat → Nat} {n i j : Nat} (h : Srt f n) (hij : i ≤ j) (hj : j < n) : f i ≤ f j := by
  rcases Nat.lt_or_ge i j with a | a
  · exact Nat.le_of_lt (h i j a hj)
  · rw [show i = j by omega]
    exact Nat.le_refl _
theorem Srt_inj {f : Nat → Nat} {n i j : Nat} (h : Srt f n) (hi : i < n) (hj : j < n) (e : f i = f j) : i = j := by
  rcases Nat.lt_trichotomy i j with a | a | a
  · have := h i j a hj; omega
  · exact a
  · have := h j i a hi; omega
theorem Srt_ix {f g : Nat → Nat} {n m : Nat} (hf : Srt f n) (hg : Srt g m) (hm : ∀ i, i < n → Mm g m (f i)) : ∀ i, i < n → ∀ j, j < m → g j = f i → i ≤ j
  | 0, _, _, _, _ => Nat.zero_le _
  | i + 1, hi, j, hj, e => by
    obtain ⟨j', hj', e'⟩ := hm i (by omega)
    have ih := Srt_ix hf hg hm i (by omega) j' hj' e'
    have h1 := hf i (i + 1) (by omega) hi
    rcases Nat.lt_or_ge j' j with a | a
    · omega
    · have := Srt_le hg a hj'
      omega
theorem Cp_mm {g : Nat → Nat} {m : Nat} (hg : Srt g m) : Cp m (Mm g m) := by
  intro f n hf hm
  cases n with
  | zero => exact Nat.zero_le _
  | succ n =>
    obtain ⟨j, hj, e⟩ := hm n (by omega)
    have := Srt_ix hf hg hm n (by omega) j hj e
    omega
theorem Cp_sub {m : Nat} {S S' : Nat → Prop} (h : Cp m S) (hs : ∀ x, S' x → S x) : Cp m S' := fun f n hf hm => h f n hf (fun i hi => hs _ (hm i hi))
theorem Cp_le {m m' : Nat} {S : Nat → Prop} (h : Cp m S) (hm : m ≤ m') : Cp m' S := fun f n hf h1 => Nat.le_trans (h f n hf h1) hm
theorem Cp_add {m v : Nat} {S : Nat → Prop} (h : Cp m S) : Cp (m + 1) (fun x => S x ∨ x = v) := by
  intro f n hf hm
  by_cases he : ∃ i, i < n ∧ f i = v
  · obtain ⟨i, hi, e⟩ := he
    have := h (fun j => if j < i then f j else f (j + 1)) (n - 1) (fun a b hab hb => by
      dsimp only
      by_cases h1 : a < i
      · rw [if_pos h1]
        by_cases h2 : b < i
        · rw [if_pos h2]; exact hf a b hab (by omega)
        · rw [if_neg h2]; exact hf a (b + 1) (by omega) (by omega)
      · rw [if_neg h1, if_neg (by omega)]
        exact hf (a + 1) (b + 1) (by omega) (by omega)) (fun j hj => by
      show S (if j < i then f j else f (j + 1))
      by_cases h1 : j < i
      · rw [if_pos h1]
        rcases hm j (by omega) with q | q
        · exact q
        · have := hf j i h1 hi; omega
      · rw [if_neg h1]
        rcases hm (j + 1) (by omega) with q | q
        · exact q
        · have := hf i (j + 1) (by omega) (by omega); omega)
    omega
  · have := h f n hf (fun i hi => (hm i hi).resolve_right (fun q => he ⟨i, hi, q⟩))
    omega
theorem Srt_uniq {f g : Nat → Nat} {n m : Nat} (hf : Srt f n) (hg : Srt g m) (h : ∀ x, Mm f n x ↔ Mm g m x) : n = m ∧ ∀ i, i < n → f i = g i := by
  have h1 : ∀ i, i < n → Mm g m (f i) := fun i hi => (h _).mp ⟨i, hi, rfl⟩
  have h2 : ∀ i, i < m → Mm f n (g i) := fun i hi => (h _).mpr ⟨i, hi, rfl⟩
  have e : n = m := Nat.le_antisymm (Cp_mm hg f n hf h1) (Cp_mm hf g m hg h2)
  subst e
  refine ⟨rfl, fun i hi => ?_⟩
  obtain ⟨j, hj, ej⟩ := h1 i hi
  obtain ⟨k, hk, ek⟩ := h2 i hi
  have a := Srt_le hg (Srt_ix hf hg h1 i hi j hj ej) hj
  have b := Srt_le hf (Srt_ix hg hf h2 i hi k hk ek) hk
  omega
/-- the place of a word in a rising row -/
theorem IsPl_mm {f : Nat → Nat} {n p w : Nat} (hf : Srt f n) (hp : IsPl (fun i => (f i : Int)) n (w : Int) p) : (Mm f n w ↔ p < n ∧ f p = w) := by
  obtain ⟨h1, h2, h3⟩ := hp
  constructor
  · rintro ⟨i, hi, e⟩
    have hip : p ≤ i := by
      rcases Nat.lt_or_ge i p with a | a
      · have := h2 i a; dsimp only at this; omega
      · exact a
    have h4 := h3 (by omega)
    have h5 := Srt_le hf hip hi
    dsimp only at h4
    exact ⟨by omega, by omega⟩
  · rintro ⟨a, b⟩
    exact ⟨p, a, b⟩
/-! beginnings -/
def wf (w : Nat) : Prop := wl w ≤ 10 ∧ wc w < 4 ^ wl w
theorem okw_wf {a w : Nat} (h : okw a w) : wf w := ⟨h.1, h.2.1⟩
theorem wf_lt {w : Nat} (h : wf w) : w < 11534336 := by
  have := h.1
  unfold wl at this
  omega
theorem pw4 {n : Nat} (h : n ≤ 10) : 4 ^ n ≤ 1048576 := (Nat.pow_le_pow_right (by decide) h : 4 ^ n ≤ 4 ^ 10)
theorem pw42 (n : Nat) : (2 : Nat) ^ (2 * n) = 4 ^ n := by rw [Nat.pow_mul]
theorem bgc {w n : Nat} (h : wf w) (hn : n ≤ wl w) : wc w / 2 ^ (2 * (wl w - n)) < 4 ^ n := by
  rw [pw42]
  apply Nat.div_lt_of_lt_mul
  rw [← Nat.pow_add, show wl w - n + n = wl w by omega]
  exact h.2
theorem wl_bg {w n : Nat} (h : wf w) (hn : n ≤ wl w) : wl (bg w n) = n := by
  have h1 := bgc h hn
  have h2 := pw4 (n := n) (by have := h.1; omega)
  unfold bg
  generalize wc w / 2 ^ (2 * (wl w - n)) = c at h1 ⊢
  unfold wl
  omega
theorem wc_bg {w n : Nat} (h : wf w) (hn : n ≤ wl w) : wc (bg w n) = wc w / 2 ^ (2 * (wl w - n)) := by
  have h1 := bgc h hn
  have h2 := pw4 (n := n) (by have := h.1; omega)
  unfold bg
  generalize wc w / 2 ^ (2 * (wl w - n)) = c at h1 ⊢
  unfold wc
  omega
theorem wf_bg {w n : Nat} (h : wf w) (hn : n ≤ wl w) : wf (bg w n) := by
  refine ⟨by rw [wl_bg h hn]; have := h.1; omega, ?_⟩
  rw [wl_bg h hn, wc_bg h hn]
  exact bgc h hn
theorem bg_bg {w n m : Nat} (h : wf w) (hn : n ≤ wl w) (hm : m ≤ n) : bg (bg w n) m = bg w m := by
  have e : bg (bg w n) m = m * 1048576 + wc (bg w n) / 2 ^ (2 * (wl (bg w n) - m)) := rfl
  rw [e, wl_bg h hn, wc_bg h hn, Nat.div_div_eq_div_mul, ← Nat.pow_add, show 2 * (wl w - n) + 2 * (n - m) = 2 * (wl w - m) by omega]
  rfl
theorem bg_self {w : Nat} : bg w (wl w) = w := by
  unfold bg
  rw [Nat.sub_self, Nat.mul_zero, Nat.pow_zero, Nat.div_one]
  unfold wl wc
  omega
theorem bg_0 {w : Nat} (h : wf w) : bg w 0 = 0 := by
  have := bgc h (Nat.zero_le _)
  unfold bg
  rw [Nat.pow_zero] at this
  generalize wc w / 2 ^ (2 * (wl w - 0)) = c at this ⊢
  omega
theorem bg_lt {w n m : Nat} (h : wf w) (hn : n ≤ wl w) (hm : m < n) : bg w m < bg w n := by
  have h1 := wl_bg h hn
  have h2 := wl_bg h (show m ≤ wl w by omega)
  unfold wl at h1 h2
  omega
/-- a word is its beginning and its last letter -/
theorem bg_lw {w : Nat} (h : wf w) (h0 : 0 < wl w) : lw (bg w (wl w - 1)) (w % 4) = w := by
  have h1 := wl_bg h (show wl w - 1 ≤ wl w by omega)
  have h2 := wc_bg h (show wl w - 1 ≤ wl w by omega)
  have h3 := bgc h (show wl w - 1 ≤ wl w by omega)
  have h4 := pw4 (n := wl w - 1) (by have := h.1; omega)
  have h5 : 4 ^ (wl w - 1) ≤ 4 ^ 9 := Nat.pow_le_pow_right (by decide) (by have := h.1; omega)
  rw [show 2 * (wl w - (wl w - 1)) = 2 by omega] at h2 h3
  have e : lw (bg w (wl w - 1)) (w % 4) = (wl (bg w (wl w - 1)) + 1) * 1048576 + (wc (bg w (wl w - 1)) * 4) % 1048576 + w % 4 := rfl
  rw [e, h1, h2]
  have h6 := wc_lt w
  have e2 : w = wl w * 1048576 + wc w := by unfold wl wc; omega
  have e3 : w % 4 = wc w % 4 := by unfold wc; omega
  rw [e3]
  have e4 : (2 : Nat) ^ 2 = 4 := rfl
  rw [e4] at h3 ⊢
  omega
theorem lw_bg {w l : Nat} (h : wf w) (hn : wl w ≤ 9) (hl : l < 4) : wf (lw w l) ∧ wl (lw w l) = wl w + 1 ∧ bg (lw w l) (wl w) = w ∧ lw w l % 4 = l := by
  have hp : 4 ^ wl w ≤ 4 ^ 9 := Nat.pow_le_pow_right (by decide) hn
  have hc := h.2
  have e1 := wl_lw (w := w) (l := l) hl
  have e2 := wc_lw (w := w) (l := l) hl (by omega)
  refine ⟨⟨by omega, by rw [e1, e2, Nat.pow_succ]; omega⟩, e1, ?_, ?_⟩
  · have e : bg (lw w l) (wl w) = wl w * 1048576 + wc (lw w l) / 2 ^ (2 * (wl (lw w l) - wl w)) := rfl
    rw [e, e1, e2, show 2 * (wl w + 1 - wl w) = 2 by omega]
    have : w = wl w * 1048576 + wc w := by unfold wl wc; omega
    omega
  · unfold lw
    omega
