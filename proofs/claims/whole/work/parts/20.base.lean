/-! LEVEL 2, common: how a spec of a method is begun; numbers -/
abbrev vi (x : Int) : V := some (.inl x)
abbrev vr (k : Nat) : V := some (.inr k)
theorem MS_v {d k o : Nat} {as : List V} {st : St} {Q : Rn} (ls : List V) (h1 : (as.length + 1).ble (mL k) = true) (h2 : as.all Option.isSome = true) (h3 : kl o = mK k) (hls : vr o :: as ++ List.replicate (mL k - (as.length + 1)) none = ls) (h : AW (P k) Q (MS d) 0 (fun _ => 0) 0 ls [] st) : MS (d + 1) k (vr o :: as) st Q := by
  refine ⟨?_, ?_⟩
  · have h1 := Nat.le_of_ble_eq_true h1
    simp [aok, h1, h2, h3]
  · subst hls
    exact h
theorem MS_s {d k : Nat} {as : List V} {st : St} {Q : Rn} (ls : List V) (h1 : (as.length).ble (mL k) = true) (h2 : as.all Option.isSome = true) (h3 : mS k = true) (hls : as ++ List.replicate (mL k - as.length) none = ls) (h : AW (P k) Q (MS d) 0 (fun _ => 0) 0 ls [] st) : MS (d + 1) k as st Q := by
  refine ⟨?_, ?_⟩
  · have h1 := Nat.le_of_ble_eq_true h1
    simp [aok, h1, h2, h3]
  · subst hls
    exact h
theorem MS_le {d d' k : Nat} {as : List V} {st : St} {Q : Rn} (h : d ≤ d') (hq : MS d k as st Q) : MS d' k as st Q := by
  induction h with
  | refl => exact hq
  | step _ ih => exact MS_up _ _ _ _ _ _ (fun _ _ h => h) ih
theorem MS_cons {d k : Nat} {as : List V} {st : St} {Q Q' : Rn} (h : MS d k as st Q) (hq : ∀ v t, Q v t → Q' v t) : MS d k as st Q' := MS_mono d _ _ _ _ _ hq h
def ar (o n : Nat) : Prop := kl o = 50 ∧ len o = n
def az (o n : Nat) : Prop := kl o = 52 ∧ len o = n
def ay (o n : Nat) : Prop := kl o = 51 ∧ len o = n
theorem natLit (n : Nat) : (Nat.cast (no_index (OfNat.ofNat n)) : Int) = OfNat.ofNat n := rfl
theorem ok01_0 : ok01 0 := Or.inl rfl
theorem ok01_1 : ok01 1 := Or.inr rfl
theorem upf_s {f : Nat → Int} {i : Nat} {v : Int} : upf f i v i = v := by unfold upf; rw [if_pos rfl]
theorem upf_n {f : Nat → Int} {i j : Nat} {v : Int} (h : j ≠ i) : upf f i v j = f j := by unfold upf; rw [if_neg h]
/-! bits -/
theorem oI_nat (n : Nat) : oI (n : Int) = nI n := by
  unfold oI nI
  rfl
theorem nI_toInt' {n : Nat} (h : n < 2 ^ 31) : (nI n).toInt = (n : Int) := nI_toInt h
theorem band_mod (x : Int) (k : Nat) (m : Int) (hk : k ≤ 30) (hm : (oI m).toBitVec.toNat = 2 ^ k - 1) : band x m = ((oI x).toBitVec.toNat % 2 ^ k : Nat) := by
  have h := pk_and (oI x) k hm
  show (oI x &&& oI m).toInt = _
  rw [h, nI_toInt]
  have h1 : (oI x).toBitVec.toNat % 2 ^ k < 2 ^ k := Nat.mod_lt _ (Nat.two_pow_pos k)
  have h2 : 2 ^ k ≤ 2 ^ 30 := Nat.pow_le_pow_right (by decide) hk
  omega
theorem oI_tn {n : Nat} (h : n < 2 ^ 31) : (oI (n : Int)).toBitVec.toNat = n := by
  rw [oI_nat]
  exact pk_tn (by omega)
theorem band_nat (n k : Nat) (m : Int) (hn : n < 2 ^ 31) (hk : k ≤ 30) (hm : (oI m).toBitVec.toNat = 2 ^ k - 1) : band (n : Int) m = (n % 2 ^ k : Nat) := by rw [band_mod _ k m hk hm, oI_tn hn]
theorem band3 (n : Nat) (hn : n < 2 ^ 31) : band (n : Int) 3 = (n % 4 : Nat) := band_nat n 2 3 hn (by decide) (by decide)
theorem band255 (n : Nat) (hn : n < 2 ^ 31) : band (n : Int) 255 = (n % 256 : Nat) := band_nat n 8 255 hn (by decide) (by decide)
theorem band20 (n : Nat) (hn : n < 2 ^ 31) : band (n : Int) 1048575 = (n % 1048576 : Nat) := band_nat n 20 1048575 hn (by decide) (by decide)
theorem bshr_nat (n k : Nat) (hn : n < 2 ^ 31) (hk : k < 32) : bshr (n : Int) (k : Int) = (n / 2 ^ k : Nat) := by
  have hb : ((oI (k : Int)) &&& 31 : Int32) = nI k := by
    have := pk_andN (n := k) (by omega) (m := 31) 5 (by decide)
    rw [oI_nat, this, Nat.mod_eq_of_lt (by omega)]
  show (oI (n : Int) >>> (oI (k : Int) &&& 31)).toInt = _
  rw [hb, oI_nat, pk_shrN hn (nI k) k, nI_toInt]
  · exact Nat.lt_of_le_of_lt (Nat.div_le_self _ _) hn
  · have : ∀ k, k < 32 → ((nI k).toBitVec.smod 32).toNat = k := by decide +kernel
    exact this k hk
theorem bshl_nat (n k : Nat) (hn : n * 2 ^ k < 2 ^ 31) (hk : k < 32) : bshl (n : Int) (k : Int) = (n * 2 ^ k : Nat) := by
  have hb : ((oI (k : Int)) &&& 31 : Int32) = nI k := by
    have := pk_andN (n := k) (by omega) (m := 31) 5 (by decide)
    rw [oI_nat, this, Nat.mod_eq_of_lt (by omega)]
  show (oI (n : Int) <<< (oI (k : Int) &&& 31)).toInt = _
  rw [hb, oI_nat, pk_shlN (nI k) k, nI_toInt hn]
  · have : ∀ k, k < 32 → ((nI k).toBitVec.smod 32).toNat = k := by decide +kernel
    exact this k hk
  · omega
theorem bor_add (a b k : Nat) (ha : a % 2 ^ k = 0) (hb : b < 2 ^ k) (hs : a + b < 2 ^ 31) : bor (a : Int) (b : Int) = (a + b : Nat) := by
  show (oI (a : Int) ||| oI (b : Int)).toInt = _
  have e : (oI (a : Int) ||| oI (b : Int)) = nI (a + b) := by
    apply Int32.toBitVec_inj.mp
    apply BitVec.eq_of_toNat_eq
    rw [Int32.toBitVec_or, BitVec.toNat_or, oI_tn (by omega), oI_tn (by omega), pk_tn (by omega)]
    have hd : a = 2 ^ k * (a / 2 ^ k) := by
      have := Nat.div_add_mod a (2 ^ k)
      omega
    rw [hd]
    exact (Nat.two_pow_add_eq_or_of_lt hb _).symm
  rw [e, nI_toInt hs]
theorem w8_mod (z : Int) : w8 (z % 256) = w8 z := by
  unfold w8
  exact Int.emod_bmod z 256
theorem tn_mod (x : Int) (h : InR x) : ((oI x).toBitVec.toNat : Int) % 256 = x % 256 := by
  have h1 : ((oI x).toBitVec.toNat : Int) = x % 4294967296 := by
    have : (oI x).toBitVec.toInt = x := oI_toInt h
    rw [BitVec.toInt_eq_toNat_cond] at this
    have hl : (oI x).toBitVec.toNat < 4294967296 := (oI x).toBitVec.isLt
    have h1 := h.1
    have h2 := h.2
    split at this <;> omega
  rw [h1]
  omega
theorem band255i (x : Int) (h : InR x) : band x 255 = x % 256 := by
  rw [band_mod x 8 255 (by decide) (by decide)]
  have := tn_mod x h
  omega
theorem InR_bshr (x y : Int) : InR (bshr x y) := InR_toInt _
