/-! PAIRS OF CALLS: pair -/
def foF (T : es_M) (s : Nat) : Int := foN (farF T) (pdF (farF T)) s 12
def sqN (T : es_M) : Nat → Nat
  | 0 => odN T
  | i + 1 => lfN (sqN T i) (foF T (sqN T i)).toNat
def sqI (T : es_M) (i : Nat) : Prop := sqN T i < 4096 ∧ subN (sqN T i) (odN T) ∧ pcN 18 (sqN T i) + 2 * i = pcN 18 (odN T) ∧ pdF (farF T) (sqN T i) < 1000000
theorem sqI_0 {T : es_M} (hT : TI T) (h : pdF (farF T) (odN T) < 1000000) : sqI T 0 := ⟨hT.od2.2.1, subN_of fun _ z => z, by show pcN 18 (odN T) + 2 * 0 = pcN 18 (odN T); omega, h⟩
theorem sqI_fo {T : es_M} {i : Nat} (h : sqI T i) (hz : sqN T i ≠ 0) : ∃ b : Nat, foF T (sqN T i) = b ∧ b < 12 ∧ ntzN (sqN T i) < b ∧ (sqN T i).testBit b = true ∧ farF T ((ntzN (sqN T i) * 12 + b : Nat) : Int) + pdF (farF T) (lfN (sqN T i) b) = pdF (farF T) (sqN T i) ∧ ∀ b', b' < b → ntzN (sqN T i) < b' → (sqN T i).testBit b' = true → pdF (farF T) (sqN T i) < farF T ((ntzN (sqN T i) * 12 + b' : Nat) : Int) + pdF (farF T) (lfN (sqN T i) b') := by
  have pe := pdF_eq (farF T) h.1
  rw [if_neg hz] at pe
  rcases foN_sp (farF T) (pdF (farF T)) (sqN T i) 12 with ⟨e1, e2⟩ | ⟨b, e1, e2, e3, e4, e5, e6, e7⟩
  · have := h.2.2.2; omega
  · rw [pe]
    exact ⟨b, e1, e2, e3, e4, e5, e7⟩
theorem sqI_s {T : es_M} (hT : TI T) {i : Nat} (h : sqI T i) (hz : sqN T i ≠ 0) : sqI T (i + 1) := by
  obtain ⟨b, e1, e2, e3, e4, e5, -⟩ := sqI_fo h hz
  obtain ⟨l1, l2⟩ := lfN_pc (by omega) h.1 e3 e2 e4
  have e : sqN T (i + 1) = lfN (sqN T i) b := by
    show lfN (sqN T i) (foF T (sqN T i)).toNat = _
    rw [e1, Int.toNat_natCast]
  have := farF_r hT (j := ((ntzN (sqN T i) * 12 + b : Nat) : Int)) (by omega) (by omega)
  have h4 := h.2.2.2
  have h3 := h.2.2.1
  unfold sqI
  rw [e]
  have h1 := h.1
  exact ⟨by omega, lfN_sub _ h.2.1, by omega, by omega⟩
