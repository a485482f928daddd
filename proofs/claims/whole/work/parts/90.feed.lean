/-! feed: a byte on both sides -/
theorem byte_bits (x : BitVec 32) (d : Nat) (hd : d ≤ 24) : (((((x.sshiftRight d).signExtend 8).signExtend 32).signExtend 8).signExtend 32 &&& 255#32) = ((x >>> d) &&& 255#32) := by
  apply BitVec.eq_of_getLsbD_eq
  intro i hi
  rw [BitVec.getLsbD_and, BitVec.getLsbD_and]
  by_cases h : i < 8
  · rw [BitVec.getLsbD_signExtend, BitVec.getLsbD_signExtend, BitVec.getLsbD_signExtend, BitVec.getLsbD_signExtend, BitVec.getLsbD_sshiftRight, BitVec.getLsbD_ushiftRight]
    have h1 : d + i < 32 := by omega
    have h3 : ¬ 32 ≤ i := by omega
    simp [h, hi, h1, h3]
  · have : (255#32).getLsbD i = false := by
      have : ∀ i, i < 32 → ¬ i < 8 → (255#32).getLsbD i = false := by decide
      exact this i hi h
    rw [this, Bool.and_false, Bool.and_false]
def byR (x : Int32) (d : Nat) : Int32 := (x.toUInt32 >>> ((nI d).toUInt32 &&& Int32.toUInt32 31)).toInt32 &&& (255 : Int32)
def byC (x : Int32) (d : Nat) : Int32 := vp_nar .byte (((x >>> (nI d &&& 31))).toInt8.toInt32)
theorem byte_eq (x : Int32) (d : Nat) (hd : d ≤ 24) : byC x d &&& 255 = byR x d := by
  have hs : ∀ d, d < 25 → ((nI d &&& 31).toBitVec.smod 32).toNat = d := by decide
  have hs2 : ∀ d, d < 25 → (((nI d).toUInt32 &&& Int32.toUInt32 31) % 32).toNat = d := by decide
  apply Int32.toBitVec_inj.mp
  show (((((x.toBitVec.sshiftRight ((nI d &&& 31).toBitVec.smod 32).toNat).signExtend 8).signExtend 32).signExtend 8).signExtend 32 &&& 255#32) = ((x.toBitVec >>> (((nI d).toUInt32 &&& Int32.toUInt32 31) % 32).toNat) &&& 255#32)
  rw [hs d (by omega), hs2 d (by omega)]
  exact byte_bits _ d hd
