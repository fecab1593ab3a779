/-! THE LAW (3): words of a throw, by their places -/
def nse : String := "java/util/NoSuchElementException"
def vw_ps : List Nat := [1018, 6105, 6114, 6116, 6119, 6121, 6106, 6107, 1028, 1029, 6108, 6113, 6117, 6133, 6095, 6134, 6097, 6135, 6099, 6109, 6111, 6101, 6123, 6124, 6125, 6126, 6086, 6126, 6127, 6128, 6129, 6088, 6129, 6130, 6131, 6106, 6090, 6122, 6084, 6085, 6092, 6093, 6094, 6096, 6098, 6100, 6104, 6103, 6102]
theorem vw_eq : vx_at0 "EveryStreet" 392 "java/util/NoSuchElementException" ["java/lang/RuntimeException", "java/lang/Exception"] = vw_ps.filterMap (fun p => (es_ck (p / 1000))[p % 1000]?) := by decide +kernel
/-- those among them that a warmer machine doesn't keep by itself -/
def vw_B : List Cond := [.castable nse nse, .declares ⟨"java/lang/RuntimeException", "<init>", "()V"⟩, .declares ⟨"java/lang/Exception", "<init>", "()V"⟩, .declares ⟨"java/lang/Throwable", "<init>", "()V"⟩]
def vw_X (U : State) : Prop := ∀ w ∈ vw_B, va_Nw w U
theorem vw_bad : (vx_at0 "EveryStreet" 392 "java/util/NoSuchElementException" ["java/lang/RuntimeException", "java/lang/Exception"]).all (fun w => goodWord w || decide (w ∈ vw_B)) = true := by decide +kernel
theorem vw_on : vw_B.all (fun w => w.onTables) = true := by decide +kernel
theorem vw_X.of {args : Array Value} {s : State} (h : ∀ w ∈ vw_B, w.before args s = true) : vw_X s := fun w hw => va_Nw.of (List.all_eq_true.mp vw_on w hw) (h w hw)
theorem vw_X.use {args : Array Value} {s : State} (h : vw_X s) : ∀ w ∈ vw_B, w.before args s = true := fun w hw => va_Nw.use (List.all_eq_true.mp vw_on w hw) (h w hw)
theorem vw_X.warm {s U : State} (hW : s.WarmedH U.vm) (h : vw_X s) : vw_X U := by
  intro w hw
  have x := h w hw
  have hd : ∀ y : MethodName, va_Nw (.declares y) s → va_Nw (.declares y) U := fun y hy => va_tabs rfl (rfl : (s.setVm U.vm).vm = U.vm) (by rw [Cond.declares_setVm hW.alike]; exact hy)
  rcases List.mem_cons.mp hw with rfl | hw
  · exact va_Nw.warmC hW x
  · rcases List.mem_cons.mp hw with rfl | hw
    · exact hd _ x
    · rcases List.mem_cons.mp hw with rfl | hw
      · exact hd _ x
      · rcases List.mem_cons.mp hw with rfl | hw
        · exact hd _ x
        · cases hw
theorem vw_all {args : Array Value} {s : State} (h : ∀ w ∈ es_WT, w.before args s = true) (hc : vw_X s) : ∀ w ∈ vx_at0 "EveryStreet" 392 "java/util/NoSuchElementException" ["java/lang/RuntimeException", "java/lang/Exception"], w.before args s = true := by
  intro w hw
  have g := List.all_eq_true.mp vw_bad w hw
  simp only [Bool.or_eq_true, decide_eq_true_eq] at g
  rcases g with g | g
  · rw [vw_eq] at hw
    obtain ⟨p, -, hp⟩ := List.mem_filterMap.mp hw
    exact h w (List.mem_filter.mpr ⟨es_ck_in (List.mem_of_getElem? hp), g⟩)
  · exact hc.use w g
theorem vw_ot : ∀ w ∈ Cond.classLink "EveryStreet" 390 nse :: Cond.initialized nse :: vx_at0 "EveryStreet" 392 "java/util/NoSuchElementException" ["java/lang/RuntimeException", "java/lang/Exception"], vx_ot w = true := by
  have h : (Cond.classLink "EveryStreet" 390 nse :: Cond.initialized nse :: vx_at0 "EveryStreet" 392 "java/util/NoSuchElementException" ["java/lang/RuntimeException", "java/lang/Exception"]).all vx_ot = true := by decide +kernel
  exact fun w hw => List.all_eq_true.mp h w hw
theorem vw_k : Cond.classLink "EveryStreet" 390 nse ∈ es_WT := es_WT_at (p := 6083) (by decide +kernel)
theorem vw_i : Cond.initialized nse ∈ es_WT := es_WT_at (p := 1021) (by decide +kernel)
theorem vw_l : Cond.classLink "EveryStreetLaw" 13 nse ∈ es_WT := es_WT_at (p := 6078) (by decide +kernel)
