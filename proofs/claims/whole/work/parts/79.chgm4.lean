/-! the tape, told, counted: reference side -/
theorem byt_eq (x : Int32) {t : Nat} (ht : t < 4) : (((x >>> (nI (24 - 8 * t) &&& nI 31)).toInt8.toInt32).toInt8.toInt32) = byt x t := by
  have key : (x >>> (nI (24 - 8 * t) &&& nI 31)).toInt8 = ((x.toUInt32 >>> ((nI (24 - 8 * t)).toUInt32 &&& 31)).toInt32).toInt8 := by
    apply Int8.toBitVec_inj.mp
    have go : ∀ (s : Int32) (u : UInt32) (m : Nat), (s.toBitVec.smod 32).toNat = m → u.toBitVec.toNat % 32 = m → m ≤ 24 → (x >>> s).toInt8.toBitVec = ((x.toUInt32 >>> u).toInt32).toInt8.toBitVec := by
      intro s u m h1 h2 h3
      simp only [Int32.toBitVec_toInt8, Int32.toBitVec_shiftRight, UInt32.toBitVec_toInt32, UInt32.toBitVec_shiftRight, Int32.toBitVec_toUInt32]
      apply BitVec.eq_of_getLsbD_eq
      intro i hi
      have hm : i + m < 32 := by omega
      simp [BitVec.getLsbD_sshiftRight, BitVec.getLsbD_ushiftRight, h1, h2]
      omega
    match t, ht with
    | 0, _ => exact go _ _ 24 (by decide +kernel) (by decide +kernel) (by omega)
    | 1, _ => exact go _ _ 16 (by decide +kernel) (by decide +kernel) (by omega)
    | 2, _ => exact go _ _ 8 (by decide +kernel) (by decide +kernel) (by omega)
    | 3, _ => exact go _ _ 0 (by decide +kernel) (by decide +kernel) (by omega)
  unfold byt
  rw [key]
