def es_ck : Nat → List Cond
  | 0 => k2_sels lw_privs
  | 1 => tables_1_1
  | 2 => tables_1_2
  | 3 => tables_1_3
  | 4 => tables_1_4
  | 5 => tables_1_5
  | 6 => tables_1_6
  | 7 => tables_1_7
  | 8 => tables_1_8
  | 9 => tables_1_9
  | _ => []
theorem es_ck_in {c : Nat} {w : Cond} (h : w ∈ es_ck c) : w ∈ lw_tbl := by
  unfold lw_tbl tables_1
  simp only [List.mem_append]
  match c, h with
  | 0, h => simp only [es_ck] at h; simp [h]
  | 1, h => simp only [es_ck] at h; simp [h]
  | 2, h => simp only [es_ck] at h; simp [h]
  | 3, h => simp only [es_ck] at h; simp [h]
  | 4, h => simp only [es_ck] at h; simp [h]
  | 5, h => simp only [es_ck] at h; simp [h]
  | 6, h => simp only [es_ck] at h; simp [h]
  | 7, h => simp only [es_ck] at h; simp [h]
  | 8, h => simp only [es_ck] at h; simp [h]
  | 9, h => simp only [es_ck] at h; simp [h]
  | k + 10, h => simp [es_ck] at h
def es_at (p : Nat) (w : Cond) : Bool := decide ((es_ck (p / 1000))[p % 1000]? = some w) && goodWord w
theorem es_at_in {p : Nat} {w : Cond} (h : es_at p w = true) : w ∈ lw_tbl ∧ goodWord w = true := by
  simp only [es_at, Bool.and_eq_true, decide_eq_true_eq] at h
  exact ⟨es_ck_in (List.mem_of_getElem? h.1), h.2⟩
theorem es_FL_ok : es_FL.all (fun q => es_at q.2.2.2.2 (.fieldLink (es_cn q.1) q.2.1 (es_fd q.2.2.1 q.2.2.2.1).1 (es_fd q.2.2.1 q.2.2.2.1).2.1 (es_fd q.2.2.1 q.2.2.2.1).2.2.1)) = true := by decide +kernel
theorem es_KL_ok : es_KL.all (fun q => es_at q.2.2.2 (.constant (es_cn q.1) q.2.1 (Int32.ofInt q.2.2.1))) = true := by decide +kernel
theorem es_KJ_ok : es_KJ.all (fun q => es_at q.2.2.2 (.constantLong (es_cn q.1) q.2.1 (Int64.ofInt q.2.2.1))) = true := by decide +kernel
theorem es_AC_ok : es_AC.all (fun q => es_at q.2.2 (.methodLink (es_cn q.1) q.2.1 arraycopyName)) = true := by decide +kernel
theorem es_Mmin_ok : es_Mmin.all (fun q => es_at q.2.2 (.methodLink (es_cn q.1) q.2.1 Lib.Math.min.name)) = true := by decide +kernel
theorem es_Mmax_ok : es_Mmax.all (fun q => es_at q.2.2 (.methodLink (es_cn q.1) q.2.1 Lib.Math.max.name)) = true := by decide +kernel
def es_my (i : Nat) : MethodName := match es_mi[i]? with
  | some q => q.1
  | none => ⟨"", "", ""⟩
theorem es_ML_ok : es_ML.all (fun q => es_at q.2.2.2 (.methodLink (es_cn q.1) q.2.1 (es_my q.2.2.1))) = true := by decide +kernel
theorem es_MN_ok : es_MN.all (fun q => decide ((es_ck (q.2.2.2 / 1000))[q.2.2.2 % 1000]? = some (.methodLinkNest (es_cn q.1) q.2.1 (es_my q.2.2.1) "EveryStreet"))) = true := by decide +kernel
def es_mchk (q : es_I) : Bool := (match q.2.2.2.2.2.1 with
  | 0 => es_at q.2.2.2.2.2.2.2.1 (.instanceMethod q.1) && es_at q.2.2.2.2.2.2.2.2.1 (.selects q.1.cls q.1 q.1)
  | _ => es_at q.2.2.2.2.2.2.2.1 (.static q.1)) && es_at q.2.2.2.2.2.2.2.2.2 (.initialized q.1.cls) && decide (plainName q.1.cls = true) && decide (q.1.cls ≠ "java/lang/invoke/MethodHandle") && decide (q.1.cls ≠ "java/lang/invoke/VarHandle") && decide ((parseMethodDescriptor q.1.desc).map (fun d => d.parameters.length) = some q.2.2.2.2.1) && Nat.ble q.2.2.1 40
