/-! PAIRS OF CALLS: bars. No least way is long -/
theorem nodup_le : ∀ (n : Nat) (l : List Int), l.Nodup → (∀ x ∈ l, 0 ≤ x ∧ x < (n : Int)) → l.length ≤ n
  | 0, l, _, h => by
    cases l with
    | nil => exact Nat.le_refl _
    | cons a l => have := h a (by simp); omega
  | n + 1, l, hn, h => by
    by_cases q : (n : Int) ∈ l
    · have a := nodup_le n (l.erase (n : Int)) (hn.erase _) (fun x hx => by
        have m := List.mem_of_mem_erase hx
        have r := h x m
        have ne : x ≠ (n : Int) := fun e => by
          rw [e] at hx
          exact absurd hx (List.Nodup.not_mem_erase hn)
        omega)
      rw [List.length_erase_of_mem q] at a
      omega
    · have := nodup_le n l hn (fun x hx => by
        have r := h x hx
        have ne : x ≠ (n : Int) := fun e => q (by rw [← e]; exact hx)
        omega)
      omega
theorem wok_nodup {T : es_M} {c : Int} : ∀ (l : List Int) (p : Int), wok T c p l → ∃ l', wok T c p l' ∧ wlast p l' = wlast p l ∧ l'.Nodup ∧ (l ≠ [] → l' ≠ [])
  | [], p, h => ⟨[], h, rfl, List.nodup_nil, fun z => absurd rfl z⟩
  | x :: t, p, h => by
    obtain ⟨t', a1, a2, a3, -⟩ := wok_nodup t x h.2
    by_cases q : x ∈ t'
    · obtain ⟨u, w, e⟩ := List.append_of_mem q
      rw [e] at a1 a2 a3
      have b := (wok_app u x (x :: w)).mp a1
      refine ⟨x :: w, ⟨h.1, b.2.2⟩, ?_, ?_, fun _ => by simp⟩
      · rw [wlast_app] at a2
        exact a2
      · exact (List.nodup_append.mp a3).2.1
    · exact ⟨x :: t', ⟨h.1, a1⟩, a2, List.nodup_cons.mpr ⟨q, a3⟩, fun _ => by simp⟩
theorem wok_mem {T : es_M} {c : Int} : ∀ (l : List Int) (p : Int), wok T c p l → ∀ x ∈ l, isP T x
  | [], _, _, x, hx => absurd hx (by simp)
  | y :: l, p, h, x, hx => by
    rcases List.mem_cons.mp hx with e | e
    · rw [e]; exact h.1.1
    · exact wok_mem l y h.2 x e
theorem wcost_198 {T : es_M} (hT : TI T) {c : Int} : ∀ (l : List Int) (p : Int), isS T p → wok T c p l → wcost T c p l ≤ 198 * l.length
  | [], _, _, _ => Int.le_refl _
  | q :: l, p, hp, h => by
    have i := wcost_198 hT l q (Or.inr h.1.1) h.2
    have s := stp_r hT (c := c) hp h.1.1
    have hs := h.1.2
    show stp T c p q + wcost T c q l ≤ 198 * ((l.length + 1 : Nat) : Int)
    omega
theorem ds_bd {T : es_M} (hT : TI T) {a p q : Int} (hp : isS T p) (h : ∃ l, l ≠ [] ∧ wok T a p l ∧ wlast p l = q) : dsF T a p q ≤ 7128 := by
  obtain ⟨l, l1, l2, l3⟩ := h
  obtain ⟨l', a1, a2, a3, a4⟩ := wok_nodup l p l2
  have hn := hT.n
  have len := nodup_le 36 l' a3 (fun x hx => by have := wok_mem l' p a1 x hx; exact ⟨this.1, by have := this.2; omega⟩)
  have c := wcost_198 hT l' p hp a1
  have := (ds_min hT (a := a) (q := q) hp).2.1 _ ⟨l', a4 l1, a1, by rw [a2]; exact l3, rfl⟩
  omega
