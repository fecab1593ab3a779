/-! the row, the cached ways, and all that stands between calls -/
def isMin (P : Int → Prop) (v : Int) : Prop := v ≤ 1000000 ∧ (∀ c, P c → v ≤ c) ∧ (v < 1000000 → P v)
theorem isMin.uniq {P : Int → Prop} {v w : Int} (hv : isMin P v) (hw : isMin P w) : v = w := by
  obtain ⟨a1, a2, a3⟩ := hv
  obtain ⟨b1, b2, b3⟩ := hw
  by_cases h : v < 1000000
  · have h1 := b2 _ (a3 h)
    have h2 := a2 _ (b3 (by omega))
    omega
  · by_cases h2 : w < 1000000
    · have := a2 _ (b3 h2); omega
    · omega
theorem isMin.iff {P P' : Int → Prop} {v : Int} (h : isMin P v) (e : ∀ c, P c ↔ P' c) : isMin P' v := ⟨h.1, fun c hc => h.2.1 c ((e c).mpr hc), fun hv => (e v).mp (h.2.2 hv)⟩
/-- walks as rows of passes, from behind p (36: at the corner c) -/
def wcost (T : es_M) (c : Int) : Int → List Int → Int
  | _, [] => 0
  | p, q :: l => stp T c p q + wcost T c q l
def wok (T : es_M) (c : Int) : Int → List Int → Prop
  | _, [] => True
  | p, q :: l => (isP T q ∧ stp T c p q < 1000000) ∧ wok T c q l
def wlast : Int → List Int → Int
  | p, [] => p
  | _, q :: l => wlast q l
def leastOK (T M : es_M) : Prop := ∀ p q, isP T p → isP T q → isMin (fun x => ∃ l, l ≠ [] ∧ wok T 0 p l ∧ wlast p l = q ∧ wcost T 0 p l = x) (M 61 (p * 36 + q))
def nextsOK (T M : es_M) : Prop := ∀ p, isP T p → (0 ≤ M 63 p ∧ M 63 p ≤ 12) ∧ (∀ i, 0 ≤ i → i < M 63 p → isP T (M 62 (p * 12 + i)) ∧ stp T 0 p (M 62 (p * 12 + i)) < 1000000) ∧ ∀ q, isP T q → stp T 0 p q < 1000000 → ∃ i, 0 ≤ i ∧ i < M 63 p ∧ M 62 (p * 12 + i) = q
def CacheOK (T M : es_M) : Prop := (M 60 5 = 0 ∨ M 60 5 = 1) ∧ (M 60 5 = 0 → leastOK T M ∧ nextsOK T M)
def RowEq (M : es_M) : Prop := (M 91 1 = M 58 1 ∧ 0 ≤ M 58 1 ∧ M 58 1 ≤ 120) ∧ ∀ i, 0 ≤ i → i < M 58 1 → M 92 i = M 59 i
def Inv (M : es_M) : Prop := TI M ∧ RowEq M ∧ CacheOK M M
theorem Rep.cell {T M : es_M} (h : Rep T M) (c : Nat) (hc : ∀ j, pers c j = true) : M c = T c := funext fun j => h c j (hc j)
theorem Rep.tow {T M : es_M} (h : Rep T M) : tow T M := fun c hc => h.cell c (fun j => by unfold pers persC; rw [show Nat.ble 1 c = true from Nat.ble_eq_true_of_le hc.1, show Nat.ble c 54 = true from Nat.ble_eq_true_of_le (by omega)]; rfl)
theorem Rep.c54 {T M : es_M} (h : Rep T M) {c : Nat} (h1 : 1 ≤ c) (h2 : c ≤ 54) : M c = T c := h.cell c (fun j => by unfold pers persC; rw [show Nat.ble 1 c = true from Nat.ble_eq_true_of_le h1, show Nat.ble c 54 = true from Nat.ble_eq_true_of_le h2]; rfl)
theorem mvN_congr {M M' : es_M} (h : Rep M M') : mvN M' = mvN M := by
  funext k j
  unfold mvN
  rw [h 91 41 rfl, h 91 47 rfl, h 91 30 rfl, h 91 13 rfl, h 120 j rfl, h 125 j rfl, h 126 j rfl, h 112 j rfl, h 113 j rfl, h 98 j rfl, h 99 j rfl, h 100 j rfl, h 121 j rfl, h 102 j rfl]
theorem TI.rep {T M : es_M} (h : TI T) (hR : Rep T M) : TI M := by
  obtain ⟨h1, h2, h3, h4, h5⟩ := h
  refine ⟨h1.congr (fun c hc => ?_) (hR 91 3 rfl) (hR 91 23 rfl), h2.congr hR.tow (fun i hi => hR.c54 (by omega) (by omega)) (mvN_congr hR), h3.congr hR.tow (fun c hc => hR.c54 (by omega) (by omega)) (hR.cell 137 fun _ => rfl) (hR.cell 138 fun _ => rfl), h4.congr (hR 55 1 rfl) (hR 91 16 rfl) (hR.cell 56 fun _ => rfl) (hR.cell 103 fun _ => rfl), fun i a b => by rw [hR 109 i rfl]; exact h5 i a b⟩
  rcases hc with hc | hc | hc | hc
  · exact hR.c54 (by omega) (by omega)
  · rcases (show c = 93 ∨ c = 94 ∨ c = 95 ∨ c = 96 ∨ c = 97 by omega) with rfl | rfl | rfl | rfl | rfl <;> exact hR.cell _ fun _ => rfl
  · subst hc; exact hR.cell _ fun _ => rfl
  · rcases (show c = 106 ∨ c = 107 ∨ c = 108 by omega) with rfl | rfl | rfl <;> exact hR.cell _ fun _ => rfl
theorem stp_congr {T M : es_M} (h2 : M 2 = T 2) (h3 : M 3 = T 3) (h4 : M 4 = T 4) (h5 : M 5 = T 5) (h9 : M 9 = T 9) (h14 : M 14 = T 14) : stp M = stp T := by
  funext c p q
  unfold stp cr tb tmF goes
  rw [og_congr h2 h3, gl_congr h2 h3, ln_congr h4 h5, h9, h14]
theorem stp_rep {T M : es_M} (hR : Rep T M) : stp M = stp T := stp_congr (hR.c54 (by omega) (by omega)) (hR.c54 (by omega) (by omega)) (hR.c54 (by omega) (by omega)) (hR.c54 (by omega) (by omega)) (hR.c54 (by omega) (by omega)) (hR.c54 (by omega) (by omega))
theorem wcost_congr {T M : es_M} (h : stp M = stp T) (c : Int) : ∀ (l : List Int) (p : Int), wcost M c p l = wcost T c p l
  | [], _ => rfl
  | q :: l, p => by show stp M c p q + wcost M c q l = stp T c p q + wcost T c q l; rw [h, wcost_congr h c l q]
theorem wok_congr {T M : es_M} (h : stp M = stp T) (h1 : M 1 = T 1) (c : Int) : ∀ (l : List Int) (p : Int), wok M c p l = wok T c p l
  | [], _ => rfl
  | q :: l, p => by show ((isP M q ∧ stp M c p q < 1000000) ∧ wok M c q l) = ((isP T q ∧ stp T c p q < 1000000) ∧ wok T c q l); unfold isP; rw [h, h1, wok_congr h h1 c l q]
theorem CacheOK.congr {T T' M M' : es_M} (h : CacheOK T M) (hs : stp T' = stp T) (h1 : T' 1 = T 1) (e0 : M' 60 5 = M 60 5) (e1 : M' 61 = M 61) (e2 : M' 62 = M 62) (e3 : M' 63 = M 63) : CacheOK T' M' := by
  obtain ⟨a, b⟩ := h
  refine ⟨by rw [e0]; exact a, fun z => ?_⟩
  obtain ⟨c1, c2⟩ := b (by rw [← e0]; exact z)
  constructor
  · intro p q hp hq
    rw [e1]
    refine (c1 p q (by unfold isP at *; rw [← h1]; exact hp) (by unfold isP at *; rw [← h1]; exact hq)).iff (fun x => ?_)
    constructor
    · rintro ⟨l, l1, l2, l3, l4⟩
      exact ⟨l, l1, by rw [wok_congr hs h1]; exact l2, l3, by rw [wcost_congr hs]; exact l4⟩
    · rintro ⟨l, l1, l2, l3, l4⟩
      exact ⟨l, l1, by rw [← wok_congr hs h1]; exact l2, l3, by rw [← wcost_congr hs]; exact l4⟩
  · intro p hp
    unfold nextsOK at c2
    unfold isP at *
    rw [e2, e3, hs, h1]
    exact c2 p (by rw [← h1]; exact hp)
theorem CacheOK.self {T M : es_M} (h : CacheOK T M) (hR : Rep T M) : CacheOK M M := h.congr (stp_rep hR) (hR.c54 (by omega) (by omega)) rfl rfl rfl rfl
/-- a call that only asks -/
theorem Inv.ask {M M' : es_M} (h : Inv M) (hR : Rep M M') (hr : RowEq M') (hc : CacheOK M M') : Inv M' := ⟨h.1.rep hR, hr, hc.self hR⟩
theorem CacheOK.stale {T M : es_M} (h : M 60 5 = 1) : CacheOK T M := ⟨Or.inr h, fun z => by omega⟩
/-- .. and leaves row and cache alone -/
theorem Inv.same {M M' : es_M} (h : Inv M) (hR : Rep M M') (e58 : M' 58 = M 58) (e59 : M' 59 = M 59) (e60 : M' 60 5 = M 60 5) (e61 : M' 61 = M 61) (e62 : M' 62 = M 62) (e63 : M' 63 = M 63) (e91 : M' 91 1 = M 91 1) (e92 : M' 92 = M 92) : Inv M' := by
  refine h.ask hR ?_ (h.2.2.congr rfl rfl e60 e61 e62 e63)
  have hr := h.2.1
  unfold RowEq at hr ⊢
  rw [e58, e59, e91, e92]
  exact hr
/-- the model says that nothing was thrown -/
theorem Inv.th {M : es_M} (h : Inv M) {v : Int} : Inv (es_upd M 91 0 v) := h.same ((Rep.rf M).upd rfl) (es_upd_o _ (by decide)) (es_upd_o _ (by decide)) (es_upd_n (by decide)) (es_upd_o _ (by decide)) (es_upd_o _ (by decide)) (es_upd_o _ (by decide)) (es_upd_j (by decide)) (es_upd_o _ (by decide))
