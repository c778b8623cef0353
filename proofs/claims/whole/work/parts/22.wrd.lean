/-! words as numbers -/
def wl (w : Nat) : Nat := w / 1048576
def wc (w : Nat) : Nat := w % 1048576
def lt (w p : Nat) : Nat := (w / 2 ^ (2 * (wl w - 1 - p))) % 4
def lw (w l : Nat) : Nat := (wl w + 1) * 1048576 + (wc w * 4) % 1048576 + l
def bg (w n : Nat) : Nat := n * 1048576 + wc w / 2 ^ (2 * (wl w - n))
theorem up2_at {st : St} {o i k j : Nat} {v : Int} : up2 st o i v k j = if k = o then (if j = i then v else st o j) else st k j := by
  unfold up2 upf
  split <;> rfl
theorem sp_len {d w : Nat} {st : St} {Q : Rn} (hw : w < 2 ^ 31) (hq : Q (vi (wl w : Nat)) st) : MS (d + 1) 259 [vi w] st Q := by
  refine MS_s [vi w] rfl rfl rfl rfl ?_
  try simp only [awu 259 0, pe259, xs, i_load, i_loadR, i_inc, lg, lp, true_and, and_true, List.length_cons, List.length_nil, Nat.reduceAdd, Nat.reduceLeDiff, Nat.zero_le, Int.toNat_natCast, natLit]
  have := bshr_nat w 20 hw (by decide)
  rw [natLit] at this
  rw [this]
  exact hq
theorem wl_w {w : Nat} (hw : w < 11534336) : wl w ≤ 10 := by unfold wl; omega
theorem pow_s {s : Nat} (h : s ≤ 20) : 2 ^ s * 2 ^ (20 - s) = 1048576 := by
  rw [← Nat.pow_add, show s + (20 - s) = 20 by omega]
theorem lt_wc {w p : Nat} (hw : wl w ≤ 10) (hp : p < wl w) : lt w p = (wc w / 2 ^ (2 * (wl w - 1 - p))) % 4 := by
  unfold lt
  generalize hs : 2 * (wl w - 1 - p) = s
  have h18 : s ≤ 18 := by omega
  have e : w = wc w + 2 ^ s * (2 ^ (18 - s) * 4 * wl w) := by
    have h1 := pow_s (s := s) (by omega)
    rw [show 20 - s = (18 - s) + 2 by omega, Nat.pow_add] at h1
    have h2 : 2 ^ s * (2 ^ (18 - s) * 4 * wl w) = 1048576 * wl w := by
      rw [← Nat.mul_assoc, ← Nat.mul_assoc, Nat.mul_assoc (2 ^ s)]
      rw [show (2 : Nat) ^ 2 = 4 from rfl] at h1
      rw [h1]
    rw [h2]
    unfold wc wl
    omega
  have e2 : w / 2 ^ s = wc w / 2 ^ s + 2 ^ (18 - s) * 4 * wl w := by
    conv => lhs; rw [e]
    rw [Nat.add_mul_div_left _ _ (Nat.two_pow_pos s)]
  rw [e2, Nat.mul_comm (2 ^ (18 - s)) 4, Nat.mul_assoc]
  omega
theorem sp_letter {d w p : Nat} {st : St} {Q : Rn} (hw : w < 2 ^ 31) (hn : wl w ≤ 10) (hp : p < wl w) (hq : Q (vi (lt w p : Nat)) st) : MS (d + 2) 260 [vi w, vi p] st Q := by
  refine MS_s [vi w, vi p] rfl rfl rfl rfl ?_
  try simp only [awu 260 0, pe260, xs, i_load, i_loadR, i_inc, lg, lp, true_and, and_true, List.length_cons, List.length_nil, Nat.reduceAdd, Nat.reduceLeDiff, Nat.zero_le, Int.toNat_natCast, natLit]
  refine sp_len hw ?_
  dsimp only
  try simp only [awu 260 0, pe260, xs, i_load, i_loadR, i_inc, lg, lp, true_and, and_true, List.length_cons, List.length_nil, Nat.reduceAdd, Nat.reduceLeDiff, Nat.zero_le, Int.toNat_natCast, natLit]
  rw [wr_id (x := (wl w : Int) - 1) (by omega) (by omega), wr_id (x := (wl w : Int) - 1 - p) (by omega) (by omega), wr_id (by omega) (by omega)]
  have e : (2 : Int) * ((wl w : Int) - 1 - p) = ((2 * (wl w - 1 - p) : Nat) : Int) := by omega
  rw [e, bshr_nat w _ hw (by omega), band3 _ (Nat.lt_of_le_of_lt (Nat.div_le_self _ _) hw)]
  exact hq
theorem sp_last {d w : Nat} {st : St} {Q : Rn} (hw : w < 2 ^ 31) (hq : Q (vi (w % 4 : Nat)) st) : MS (d + 1) 261 [vi w] st Q := by
  refine MS_s [vi w] rfl rfl rfl rfl ?_
  try simp only [awu 261 0, pe261, xs, i_load, i_loadR, i_inc, lg, lp, true_and, and_true, List.length_cons, List.length_nil, Nat.reduceAdd, Nat.reduceLeDiff, Nat.zero_le, Int.toNat_natCast, natLit]
  rw [band3 w hw]
  exact hq
theorem wc_lt (w : Nat) : wc w < 1048576 := Nat.mod_lt _ (by decide)
theorem sp_longer {d w l : Nat} {st : St} {Q : Rn} (hw : w < 2 ^ 31) (hn : wl w ≤ 9) (hl : l < 4) (hq : Q (vi (lw w l : Nat)) st) : MS (d + 2) 262 [vi w, vi l] st Q := by
  refine MS_s [vi w, vi l] rfl rfl rfl rfl ?_
  try simp only [awu 262 0, pe262, xs, i_load, i_loadR, i_inc, lg, lp, true_and, and_true, List.length_cons, List.length_nil, Nat.reduceAdd, Nat.reduceLeDiff, Nat.zero_le, Int.toNat_natCast, natLit]
  refine sp_len hw ?_
  dsimp only
  try simp only [awu 262 0, pe262, xs, i_load, i_loadR, i_inc, lg, lp, true_and, and_true, List.length_cons, List.length_nil, Nat.reduceAdd, Nat.reduceLeDiff, Nat.zero_le, Int.toNat_natCast, natLit]
  have hc := wc_lt w
  rw [wr_id (by omega) (by omega)]
  have e1 : (wl w : Int) + 1 = ((wl w + 1 : Nat) : Int) := by omega
  have e2 := bshl_nat (wl w + 1) 20 (by omega) (by decide)
  have e3 := band20 w hw
  have e4 := bshl_nat (wc w) 2 (by omega) (by decide)
  rw [natLit] at e2 e4
  have e5 : ((w % 1048576 : Nat) : Int) = (wc w : Nat) := rfl
  rw [e1, e2, e3, e5, e4, band20 _ (by omega), bor_add ((wl w + 1) * 2 ^ 20) (wc w * 2 ^ 2 % 1048576) 20 (by omega) (by omega) (by omega), band3 l (by omega), bor_add _ (l % 4) 2 (by omega) (by omega) (by omega)]
  have e6 : (wl w + 1) * 2 ^ 20 + wc w * 2 ^ 2 % 1048576 + l % 4 = lw w l := by unfold lw; omega
  rw [e6]
  exact hq
theorem sp_begin {d w n : Nat} {st : St} {Q : Rn} (hw : w < 2 ^ 31) (hn : wl w ≤ 10) (hl : n ≤ wl w) (hq : Q (vi (bg w n : Nat)) st) : MS (d + 2) 263 [vi w, vi n] st Q := by
  refine MS_s [vi w, vi n] rfl rfl rfl rfl ?_
  try simp only [awu 263 0, pe263, xs, i_load, i_loadR, i_inc, lg, lp, true_and, and_true, List.length_cons, List.length_nil, Nat.reduceAdd, Nat.reduceLeDiff, Nat.zero_le, Int.toNat_natCast, natLit]
  refine sp_len hw ?_
  dsimp only
  try simp only [awu 263 0, pe263, xs, i_load, i_loadR, i_inc, lg, lp, true_and, and_true, List.length_cons, List.length_nil, Nat.reduceAdd, Nat.reduceLeDiff, Nat.zero_le, Int.toNat_natCast, natLit]
  have hc := wc_lt w
  rw [wr_id (x := (wl w : Int) - n) (by omega) (by omega), wr_id (by omega) (by omega)]
  have e1 : (2 : Int) * ((wl w : Int) - n) = ((2 * (wl w - n) : Nat) : Int) := by omega
  have e2 := bshl_nat n 20 (by omega) (by decide)
  have e3 := band20 w hw
  rw [natLit] at e2
  have e5 : ((w % 1048576 : Nat) : Int) = (wc w : Nat) := rfl
  have e7 : wc w / 2 ^ (2 * (wl w - n)) ≤ wc w := Nat.div_le_self _ _
  rw [e1, e2, e3, e5, bshr_nat (wc w) _ (by omega) (by omega), bor_add (n * 2 ^ 20) _ 20 (by omega) (by omega) (by omega)]
  exact hq
theorem sp_letterAt {d n c k : Nat} {st : St} {Q : Rn} (hc : c < 2 ^ 31) (hn : n ≤ 10) (hk : k < n) (hq : Q (vi ((c / 2 ^ (2 * (n - 1 - k))) % 4 : Nat)) st) : MS (d + 1) 48 [vi n, vi c, vi k] st Q := by
  refine MS_s [vi n, vi c, vi k] rfl rfl rfl rfl ?_
  try simp only [awu 48 0, pe48, xs, i_load, i_loadR, i_inc, lg, lp, true_and, and_true, List.length_cons, List.length_nil, Nat.reduceAdd, Nat.reduceLeDiff, Nat.zero_le, Int.toNat_natCast, natLit]
  rw [wr_id (x := (n : Int) - 1) (by omega) (by omega), wr_id (x := (n : Int) - 1 - k) (by omega) (by omega), wr_id (by omega) (by omega)]
  have e : (2 : Int) * ((n : Int) - 1 - k) = ((2 * (n - 1 - k) : Nat) : Int) := by omega
  rw [e, bshr_nat c _ hc (by omega), band3 _ (Nat.lt_of_le_of_lt (Nat.div_le_self _ _) hc)]
  exact hq
theorem sp_ahead {d : Nat} {n c m e : Int} {st : St} {Q : Rn} (hq : Q (vi (if n < m ∨ (n = m ∧ c < e) then 1 else 0)) st) : MS (d + 1) 49 [vi n, vi c, vi m, vi e] st Q := by
  refine MS_s [vi n, vi c, vi m, vi e] rfl rfl rfl rfl ?_
  try simp only [awu 49 0, awu 49 1, awu 49 2, awu 49 3, awu 49 4, awu 49 5, pe49, xs, i_load, i_loadR, i_inc, lg, lp, true_and, and_true, List.length_cons, List.length_nil, Nat.reduceAdd, Nat.reduceLeDiff, Nat.zero_le, Int.toNat_natCast, natLit]
  refine ⟨fun a => ?_, fun a => ⟨fun b => ?_, fun b => ⟨fun g => ?_, fun g => ?_⟩⟩⟩
  · rw [if_pos (by omega)] at hq
    exact ⟨ok01_1, hq⟩
  · rw [if_neg (by omega)] at hq
    exact ⟨ok01_0, hq⟩
  · rw [if_neg (by omega)] at hq
    exact ⟨ok01_0, hq⟩
  · rw [if_pos (by omega)] at hq
    exact ⟨ok01_1, hq⟩
/-! the k-th word of a length -/
def nb (a : Nat) (k : Nat) : Nat → Nat
  | 0 => 0
  | n + 1 => nb a k n + (k / a ^ n % a) * 4 ^ n
theorem nb_lt {a k : Nat} (ha : 0 < a) (h4 : a ≤ 4) : ∀ n, nb a k n < 4 ^ n
  | 0 => Nat.one_pos
  | n + 1 => by
    have ih := nb_lt (k := k) ha h4 n
    have h1 : k / a ^ n % a < 4 := Nat.lt_of_lt_of_le (Nat.mod_lt _ ha) h4
    have h2 : (k / a ^ n % a) * 4 ^ n ≤ 3 * 4 ^ n := Nat.mul_le_mul_right _ (by omega)
    show nb a k n + _ < 4 ^ (n + 1)
    rw [Nat.pow_succ]
    omega
theorem brem_nat (x y : Nat) (hx : x < 2 ^ 31) (hy : 0 < y) (hy2 : y < 2 ^ 31) : brem (x : Int) (y : Int) = (x % y : Nat) := by
  unfold brem
  have e : (x : Int).tdiv (y : Int) = ((x / y : Nat) : Int) := Int.ofNat_tdiv x y
  have h1 : x / y ≤ x := Nat.div_le_self _ _
  have h2 : x / y * y ≤ x := Nat.div_mul_le_self _ _
  have h4 := Nat.div_add_mod x y
  rw [e]
  generalize x / y = q at *
  generalize x % y = r at *
  have h6 : (q : Int) * (y : Int) = ((q * y : Nat) : Int) := (Int.natCast_mul q y).symm
  rw [Nat.mul_comm] at h4
  rw [wr_id (x := (q : Int)) (by omega) (by omega), h6]
  generalize q * y = z at *
  rw [wr_id (x := (z : Int)) (by omega) (by omega), wr_id (by omega) (by omega)]
  omega
theorem div_nat (x y : Nat) (hx : x < 2 ^ 31) : wr ((x : Int).tdiv (y : Int)) = ((x / y : Nat) : Int) := by
  have e : (x : Int).tdiv (y : Int) = ((x / y : Nat) : Int) := Int.ofNat_tdiv x y
  have h1 : x / y ≤ x := Nat.div_le_self _ _
  rw [e]
  generalize x / y = q at *
  rw [wr_id (by omega) (by omega)]
theorem sp_codeOf {d n x a : Nat} {st : St} {Q : Rn} (hx : x < 2 ^ 31) (hn : n ≤ 10) (ha : 0 < a) (h4 : a ≤ 4) (hl : st 99 2 = a) (hq : Q (vi (nb a x n : Nat)) st) : MS (d + 1) 151 [vr 99, vi n, vi x] st Q := by
  have k0 : kl 99 = 12 := rfl
  refine MS_v [vr 99, vi n, vi x, none, none, none] rfl rfl rfl rfl ?_
  try simp only [awu 151 0, pe151, xs, i_load, i_loadR, i_inc, lg, lp, true_and, and_true, List.length_cons, List.length_nil, Nat.reduceAdd, Nat.reduceLeDiff, Nat.zero_le, Int.toNat_natCast, natLit]
  have key : ∀ m k : Nat, k ≤ n → n - k = m → AW (P 151) Q (MS d) 0 (fun _ => 0) 1 [vr 99, vi n, vi x, vi (nb a x k : Nat), vi (x / a ^ k : Nat), vi k] [] st := by
    intro m
    induction m with
    | zero =>
      intro k h1 h2
      have : k = n := by omega
      subst this
      rw [awu 151 1]
      try simp only [awu 151 2, awu 151 3, pe151, xs, i_load, i_loadR, i_inc, lg, lp, true_and, and_true, List.length_cons, List.length_nil, Nat.reduceAdd, Nat.reduceLeDiff, Nat.zero_le, Int.toNat_natCast, natLit]
      exact ⟨fun _ => hq, fun a => by omega⟩
    | succ m ih =>
      intro k h1 h2
      rw [awu 151 1]
      try simp only [awu 151 2, awu 151 3, pe151, xs, i_load, i_loadR, i_inc, lg, lp, true_and, and_true, List.length_cons, List.length_nil, Nat.reduceAdd, Nat.reduceLeDiff, Nat.zero_le, Int.toNat_natCast, natLit, k0, hl]
      refine ⟨fun a => by omega, fun _ => ⟨by omega, by omega, ?_⟩⟩
      have hd : x / a ^ k ≤ x := Nat.div_le_self _ _
      have hlt := nb_lt (k := x) ha h4 k
      have hr : x / a ^ k % a < 4 := Nat.lt_of_lt_of_le (Nat.mod_lt _ ha) h4
      have hp : 4 ^ k ≤ 4 ^ 9 := Nat.pow_le_pow_right (by decide) (by omega)
      have e3 : x / a ^ k / a = x / a ^ (k + 1) := by rw [Nat.pow_succ, Nat.div_div_eq_div_mul]
      have e4 : nb a x (k + 1) = nb a x k + (x / a ^ k % a) * 4 ^ k := rfl
      have e5 : (2 : Nat) ^ (2 * k) = 4 ^ k := by rw [Nat.pow_mul]
      have hm : (x / a ^ k % a) * 4 ^ k ≤ 3 * 4 ^ k := Nat.mul_le_mul_right _ (by omega)
      rw [brem_nat _ _ (by omega) ha (by omega), div_nat _ _ (by omega), e3, wr_id (x := 2 * (k : Int)) (by omega) (by omega), wr_id (by omega) (by omega)]
      have e6 : (2 : Int) * (k : Int) = ((2 * k : Nat) : Int) := by omega
      rw [e6, bshl_nat _ (2 * k) (by rw [e5]; omega) (by omega), e5]
      have e7 : bor (nb a x k : Nat) (((x / a ^ k % a) * 4 ^ k : Nat) : Int) = (nb a x (k + 1) : Nat) := by
        have hb : bor (nb a x k : Nat) (((x / a ^ k % a) * 4 ^ k : Nat) : Int) = bor (((x / a ^ k % a) * 4 ^ k : Nat) : Int) (nb a x k : Nat) := by
          show (oI _ ||| oI _).toInt = (oI _ ||| oI _).toInt
          rw [Int32.or_comm]
        rw [hb, bor_add _ (nb a x k) (2 * k) (by rw [e5]; exact Nat.mul_mod_left _ _) (by rw [e5]; exact hlt) (by omega), e4, Nat.add_comm]
      rw [e7]
      exact ih (k + 1) (by omega) (by omega)
  have := key n 0 (Nat.zero_le _) rfl
  rw [Nat.pow_zero, Nat.div_one] at this
  exact this
theorem sp_numbered {d n x a : Nat} {st : St} {Q : Rn} (hx : x < 2 ^ 31) (hn : n ≤ 10) (ha : 0 < a) (h4 : a ≤ 4) (hq : Q (vi (n * 1048576 + nb a x n : Nat)) st) : MS (d + 1) 264 [vi x, vi n, vi a] st Q := by
  refine MS_s [vi x, vi n, vi a, none, none, none] rfl rfl rfl rfl ?_
  try simp only [awu 264 0, pe264, xs, i_load, i_loadR, i_inc, lg, lp, true_and, and_true, List.length_cons, List.length_nil, Nat.reduceAdd, Nat.reduceLeDiff, Nat.zero_le, Int.toNat_natCast, natLit]
  have key : ∀ m k : Nat, k ≤ n → n - k = m → AW (P 264) Q (MS d) 0 (fun _ => 0) 1 [vi x, vi n, vi a, vi (nb a x k : Nat), vi (x / a ^ k : Nat), vi k] [] st := by
    intro m
    induction m with
    | zero =>
      intro k h1 h2
      have : k = n := by omega
      subst this
      rw [awu 264 1]
      try simp only [awu 264 2, awu 264 3, awu 264 4, pe264, xs, i_load, i_loadR, i_inc, lg, lp, true_and, and_true, List.length_cons, List.length_nil, Nat.reduceAdd, Nat.reduceLeDiff, Nat.zero_le, Int.toNat_natCast, natLit]
      have hlt := nb_lt (k := x) ha h4 k
      have hp : 4 ^ k ≤ 4 ^ 10 := Nat.pow_le_pow_right (by decide) (by omega)
      have e2 := bshl_nat k 20 (by omega) (by decide)
      rw [natLit] at e2
      have e : bor (bshl k 20) (nb a x k : Nat) = (k * 1048576 + nb a x k : Nat) := by rw [e2, bor_add _ _ 20 (by omega) (by omega) (by omega)]
      rw [e]
      exact ⟨fun _ => hq, fun a => by omega⟩
    | succ m ih =>
      intro k h1 h2
      rw [awu 264 1]
      try simp only [awu 264 2, awu 264 3, awu 264 4, pe264, xs, i_load, i_loadR, i_inc, lg, lp, true_and, and_true, List.length_cons, List.length_nil, Nat.reduceAdd, Nat.reduceLeDiff, Nat.zero_le, Int.toNat_natCast, natLit]
      refine ⟨fun a => by omega, fun _ => ⟨fun a => by omega, fun _ => ⟨by omega, by omega, ?_⟩⟩⟩
      have hd : x / a ^ k ≤ x := Nat.div_le_self _ _
      have hlt := nb_lt (k := x) ha h4 k
      have hr : x / a ^ k % a < 4 := Nat.lt_of_lt_of_le (Nat.mod_lt _ ha) h4
      have hp : 4 ^ k ≤ 4 ^ 9 := Nat.pow_le_pow_right (by decide) (by omega)
      have e3 : x / a ^ k / a = x / a ^ (k + 1) := by rw [Nat.pow_succ, Nat.div_div_eq_div_mul]
      have e4 : nb a x (k + 1) = nb a x k + (x / a ^ k % a) * 4 ^ k := rfl
      have e5 : (2 : Nat) ^ (2 * k) = 4 ^ k := by rw [Nat.pow_mul]
      have hm : (x / a ^ k % a) * 4 ^ k ≤ 3 * 4 ^ k := Nat.mul_le_mul_right _ (by omega)
      rw [brem_nat _ _ (by omega) ha (by omega), div_nat _ _ (by omega), e3, wr_id (x := 2 * (k : Int)) (by omega) (by omega), wr_id (by omega) (by omega)]
      have e6 : (2 : Int) * (k : Int) = ((2 * k : Nat) : Int) := by omega
      rw [e6, bshl_nat _ (2 * k) (by rw [e5]; omega) (by omega), e5]
      have e7 : bor (nb a x k : Nat) (((x / a ^ k % a) * 4 ^ k : Nat) : Int) = (nb a x (k + 1) : Nat) := by
        have hb : bor (nb a x k : Nat) (((x / a ^ k % a) * 4 ^ k : Nat) : Int) = bor (((x / a ^ k % a) * 4 ^ k : Nat) : Int) (nb a x k : Nat) := by
          show (oI _ ||| oI _).toInt = (oI _ ||| oI _).toInt
          rw [Int32.or_comm]
        rw [hb, bor_add _ (nb a x k) (2 * k) (by rw [e5]; exact Nat.mul_mod_left _ _) (by rw [e5]; exact hlt) (by omega), e4, Nat.add_comm]
      rw [e7]
      exact ih (k + 1) (by omega) (by omega)
  have := key n 0 (Nat.zero_le _) rfl
  rw [Nat.pow_zero, Nat.div_one] at this
  exact this
