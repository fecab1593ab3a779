/-! walks over the code, block by block (printed by program): what must hold at a place so that the goal holds there -/
abbrev li (x : Int) : Option AV := some (.inl x)
abbrev ll (x : Int) : Option AV := some (.inr (.inl x))
abbrev lr (k : Nat) : Option AV := some (.inr (.inr k))
def st_EveryStreet_sign : List (Nat × List Bool) := []
set_option maxRecDepth 10000 in
theorem c_EveryStreet_sign {d : Nat} {Q : Int → es_M → Prop} {a1 : Int} {M : es_M} (h : es_Call d 73 [.inr (.inr 55), .inl a1] M (fun y2 M1 => Q y2 M1)) : es_Call (d + 1) 0 [.inr (.inr 0), .inl a1] M Q :=
  es_method (own := 0) (cd := cd_EveryStreet_sign) (stop := st_EveryStreet_sign) rfl rfl ck_EveryStreet_sign rfl rfl fun _ hG => hG 5 0 _ _ _ h
def st_EveryStreet_end : List (Nat × List Bool) := []
set_option maxRecDepth 10000 in
theorem c_EveryStreet_end {d : Nat} {Q : Int → es_M → Prop} {a1 : Int} {M : es_M} (h : es_Call d 74 [.inr (.inr 55), .inl a1] M (fun y2 M1 => ((y2 = 0 ∨ y2 = 1) ∧ Q y2 M1))) : es_Call (d + 1) 1 [.inr (.inr 0), .inl a1] M Q :=
  es_method (own := 0) (cd := cd_EveryStreet_end) (stop := st_EveryStreet_end) rfl rfl ck_EveryStreet_end rfl rfl fun _ hG => hG 5 0 _ _ _ h
def st_EveryStreet_town : List (Nat × List Bool) := [(64, [true, true, true]), (74, [true, true, true])]
set_option maxRecDepth 10000 in
theorem k_EveryStreet_town_0 {d : Nat} {Q : Int → es_M → Prop} {G : Nat → es_L → List AV → es_M → Prop} (hG : es_Cl cd_EveryStreet_town st_EveryStreet_town (some .int) d Q G) {M : es_M} (h : es_Call d 75 [.inr (.inr 55), .inr (.inr 1)] M (fun y2 M1 => es_Call d 74 [.inr (.inr 55), .inl 0] M1 (fun y4 M3 => ((0 < y2 → es_Call d 86 [.inr (.inr 55), .inr (.inr 1)] M3 (fun y6 M5 => ((¬ y6 = 0 → es_Call d 87 [.inr (.inr 55), .inr (.inr 1)] M5 (fun _ M7 => es_Call d 67 [.inr (.inr 14)] M7 (fun _ M8 => G 64 [lr 0, li y2, li 0] [] M8))) ∧ (y6 = 0 → Q (-100) M5)))) ∧ (¬ 0 < y2 → Q y2 M3))))) : G 0 [lr 0, none, none] [] M := hG 30 0 _ _ _ h
set_option maxRecDepth 10000 in
theorem k_EveryStreet_town_64 {d : Nat} {Q : Int → es_M → Prop} {G : Nat → es_L → List AV → es_M → Prop} (hG : es_Cl cd_EveryStreet_town st_EveryStreet_town (some .int) d Q G) {a1 : Int} {a2 : Int} {M : es_M} (h : ((3 ≤ a2 → (((1 : Int) = 0 ∨ (1 : Int) = 1) ∧ Q a1 (es_upd M 60 5 1))) ∧ (¬ 3 ≤ a2 → G 74 [lr 0, li a1, li a2] [.inl a2, .inr (.inr 24)] M))) : G 64 [lr 0, li a1, li a2] [] M := hG 9 64 _ _ _ h
set_option maxRecDepth 10000 in
theorem k_EveryStreet_town_74_0 {d : Nat} {Q : Int → es_M → Prop} {G : Nat → es_L → List AV → es_M → Prop} (hG : es_Cl cd_EveryStreet_town st_EveryStreet_town (some .int) d Q G) {a1 : Int} {a2 : Int} {M : es_M} (h : ((0 : Int) ≤ 0 ∧ (((0 : Int) = 0 ∨ (0 : Int) = 1) ∧ G 64 [lr 0, li a1, li (w32 (a2 + 1))] [] (es_upd M 25 0 0)))) : G 74 [lr 0, li a1, li a2] [.inl 0, .inr (.inr 24)] M := hG 6 74 _ _ _ h
set_option maxRecDepth 10000 in
theorem k_EveryStreet_town_74_1 {d : Nat} {Q : Int → es_M → Prop} {G : Nat → es_L → List AV → es_M → Prop} (hG : es_Cl cd_EveryStreet_town st_EveryStreet_town (some .int) d Q G) {a1 : Int} {a2 : Int} {M : es_M} (h : ((0 : Int) ≤ 1 ∧ (((0 : Int) = 0 ∨ (0 : Int) = 1) ∧ G 64 [lr 0, li a1, li (w32 (a2 + 1))] [] (es_upd M 35 0 0)))) : G 74 [lr 0, li a1, li a2] [.inl 1, .inr (.inr 24)] M := hG 6 74 _ _ _ h
set_option maxRecDepth 10000 in
theorem k_EveryStreet_town_74_2 {d : Nat} {Q : Int → es_M → Prop} {G : Nat → es_L → List AV → es_M → Prop} (hG : es_Cl cd_EveryStreet_town st_EveryStreet_town (some .int) d Q G) {a1 : Int} {a2 : Int} {M : es_M} (h : ((0 : Int) ≤ 2 ∧ (((0 : Int) = 0 ∨ (0 : Int) = 1) ∧ G 64 [lr 0, li a1, li (w32 (a2 + 1))] [] (es_upd M 45 0 0)))) : G 74 [lr 0, li a1, li a2] [.inl 2, .inr (.inr 24)] M := hG 6 74 _ _ _ h
set_option maxRecDepth 10000 in
theorem m_EveryStreet_town {d : Nat} {Q : Int → es_M → Prop} {M : es_M} (h : ∀ G : Nat → es_L → List AV → es_M → Prop, es_Cl cd_EveryStreet_town st_EveryStreet_town (some .int) d Q G → G 0 [lr 0, none, none] [] M) : es_Call (d + 1) 2 [.inr (.inr 0)] M Q :=
  es_method (own := 0) (cd := cd_EveryStreet_town) (stop := st_EveryStreet_town) rfl rfl ck_EveryStreet_town rfl rfl h
def st_EveryStreet_isCorner : List (Nat × List Bool) := []
set_option maxRecDepth 10000 in
theorem c_EveryStreet_isCorner {d : Nat} {Q : Int → es_M → Prop} {a0 : Int} {M : es_M} (h : ((a0 < 0 → (((0 : Int) = 0 ∨ (0 : Int) = 1) ∧ Q 0 M)) ∧ (¬ a0 < 0 → ((12 ≤ a0 → (((0 : Int) = 0 ∨ (0 : Int) = 1) ∧ Q 0 M)) ∧ (¬ 12 ≤ a0 → (((1 : Int) = 0 ∨ (1 : Int) = 1) ∧ Q 1 M)))))) : es_Call (d + 1) 3 [.inl a0] M Q :=
  es_method (own := 0) (cd := cd_EveryStreet_isCorner) (stop := st_EveryStreet_isCorner) rfl rfl ck_EveryStreet_isCorner rfl rfl fun _ hG => hG 8 0 _ _ _ h
def st_EveryStreet_back : List (Nat × List Bool) := []
set_option maxRecDepth 10000 in
theorem c_EveryStreet_back {d : Nat} {Q : Int → es_M → Prop} {a1 : Int} {M : es_M} (h : ((a1 < 0 → Q (-1) M) ∧ (¬ a1 < 0 → ((a1 ≤ 99 → (((1 : Int) = 0 ∨ (1 : Int) = 1) ∧ Q (M 14 5) (es_upd (es_upd M 14 5 a1) 60 5 1))) ∧ (¬ a1 ≤ 99 → Q (-1) M))))) : es_Call (d + 1) 4 [.inr (.inr 0), .inl a1] M Q :=
  es_method (own := 0) (cd := cd_EveryStreet_back) (stop := st_EveryStreet_back) rfl rfl ck_EveryStreet_back rfl rfl fun _ hG => hG 19 0 _ _ _ h
def st_EveryStreet_street : List (Nat × List Bool) := []
set_option maxRecDepth 10000 in
theorem c_EveryStreet_street {d : Nat} {Q : Int → es_M → Prop} {a1 : Int} {a2 : Int} {M : es_M} (h : es_Call d 54 [.inr (.inr 1), .inl a1] M (fun y2 M1 => ((¬ y2 = 0 → (((a2 < 0 ∨ 6 < a2) → Q (-1) M1) ∧ ((a2 = 0 → ((0 ≤ a1 ∧ a1 < 18) ∧ Q (M1 2 a1) M1)) ∧ ((a2 = 1 → ((0 ≤ a1 ∧ a1 < 18) ∧ Q (M1 3 a1) M1)) ∧ ((a2 = 2 → ((0 ≤ a1 ∧ a1 < 18) ∧ Q (M1 4 a1) M1)) ∧ ((a2 = 3 → ((0 ≤ a1 ∧ a1 < 18) ∧ Q (M1 5 a1) M1)) ∧ ((a2 = 4 → ((0 ≤ a1 ∧ a1 < 18) ∧ Q (M1 6 a1) M1)) ∧ ((a2 = 5 → ((0 ≤ a1 ∧ a1 < 18) ∧ Q (M1 7 a1) M1)) ∧ ((a2 = 6 → es_Call d 6 [.inl (M1 14 4), .inl a1] M1 (fun y4 M3 => ((y4 = 0 → Q 0 M3) ∧ (¬ y4 = 0 → Q 1 M3)))) ∧ True))))))))) ∧ (y2 = 0 → Q (-1) M1)))) : es_Call (d + 1) 5 [.inr (.inr 0), .inl a1, .inl a2] M Q :=
  es_method (own := 0) (cd := cd_EveryStreet_street) (stop := st_EveryStreet_street) rfl rfl ck_EveryStreet_street rfl rfl fun _ hG => hG 16 0 _ _ _ h
def st_EveryStreet_has : List (Nat × List Bool) := []
set_option maxRecDepth 10000 in
theorem c_EveryStreet_has {d : Nat} {Q : Int → es_M → Prop} {a0 : Int} {a1 : Int} {M : es_M} (h : ((¬ (es_and (es_shr a0 a1) 1) = 1 → (((0 : Int) = 0 ∨ (0 : Int) = 1) ∧ Q 0 M)) ∧ ((es_and (es_shr a0 a1) 1) = 1 → (((1 : Int) = 0 ∨ (1 : Int) = 1) ∧ Q 1 M)))) : es_Call (d + 1) 6 [.inl a0, .inl a1] M Q :=
  es_method (own := 0) (cd := cd_EveryStreet_has) (stop := st_EveryStreet_has) rfl rfl ck_EveryStreet_has rfl rfl fun _ hG => hG 10 0 _ _ _ h
def st_EveryStreet_between : List (Nat × List Bool) := []
set_option maxRecDepth 10000 in
theorem c_EveryStreet_between {d : Nat} {Q : Int → es_M → Prop} {a1 : Int} {a2 : Int} {M : es_M} (h : es_Call d 50 [.inr (.inr 1), .inl a1, .inl a2] M (fun y2 M1 => Q y2 M1)) : es_Call (d + 1) 7 [.inr (.inr 0), .inl a1, .inl a2] M Q :=
  es_method (own := 0) (cd := cd_EveryStreet_between) (stop := st_EveryStreet_between) rfl rfl ck_EveryStreet_between rfl rfl fun _ hG => hG 6 0 _ _ _ h
def st_EveryStreet_turn : List (Nat × List Bool) := []
set_option maxRecDepth 10000 in
theorem c_EveryStreet_turn {d : Nat} {Q : Int → es_M → Prop} {a1 : Int} {a2 : Int} {a3 : Int} {M : es_M} (h : es_Call d 3 [.inl a1] M (fun y2 M1 => ((y2 = 0 → Q (-1) M1) ∧ (¬ y2 = 0 → es_Call d 3 [.inl a2] M1 (fun y4 M3 => ((y4 = 0 → Q (-1) M3) ∧ (¬ y4 = 0 → es_Call d 3 [.inl a3] M3 (fun y6 M5 => ((y6 = 0 → Q (-1) M5) ∧ (¬ y6 = 0 → ((a1 = a2 → Q (-1) M5) ∧ (¬ a1 = a2 → ((¬ a2 = a3 → es_Call d 55 [.inr (.inr 1), .inl a1, .inl a2, .inl a3, .inl (M5 14 5)] M5 (fun y8 M7 => Q y8 M7)) ∧ (a2 = a3 → Q (-1) M5)))))))))))))) : es_Call (d + 1) 8 [.inr (.inr 0), .inl a1, .inl a2, .inl a3] M Q :=
  es_method (own := 0) (cd := cd_EveryStreet_turn) (stop := st_EveryStreet_turn) rfl rfl ck_EveryStreet_turn rfl rfl fun _ hG => hG 25 0 _ _ _ h
def st_EveryStreet_service : List (Nat × List Bool) := []
set_option maxRecDepth 10000 in
theorem c_EveryStreet_service {d : Nat} {Q : Int → es_M → Prop} {a1 : Int} {a2 : Int} {M : es_M} (h : es_Call d 56 [.inr (.inr 1), .inl a1] M (fun y2 M1 => ((¬ y2 = 0 → (((a2 < 0 ∨ 3 < a2) → Q (-1) M1) ∧ ((a2 = 0 → ((0 ≤ a1 ∧ a1 < 10) ∧ Q (M1 10 a1) M1)) ∧ ((a2 = 1 → ((0 ≤ a1 ∧ a1 < 10) ∧ Q (M1 11 a1) M1)) ∧ ((a2 = 2 → ((0 ≤ a1 ∧ a1 < 10) ∧ ((0 ≤ (M1 10 a1) ∧ (M1 10 a1) < 18) ∧ Q (M1 7 (M1 10 a1)) M1))) ∧ ((a2 = 3 → ((0 ≤ a1 ∧ a1 < 10) ∧ Q (M1 12 a1) M1)) ∧ True)))))) ∧ (y2 = 0 → Q (-1) M1)))) : es_Call (d + 1) 9 [.inr (.inr 0), .inl a1, .inl a2] M Q :=
  es_method (own := 0) (cd := cd_EveryStreet_service) (stop := st_EveryStreet_service) rfl rfl ck_EveryStreet_service rfl rfl fun _ hG => hG 17 0 _ _ _ h
def st_EveryStreet_ahead : List (Nat × List Bool) := []
set_option maxRecDepth 10000 in
theorem c_EveryStreet_ahead {d : Nat} {Q : Int → es_M → Prop} {a1 : Int} {a2 : Int} {M : es_M} (h : es_Call d 56 [.inr (.inr 1), .inl a1] M (fun y2 M1 => ((y2 = 0 → (((0 : Int) = 0 ∨ (0 : Int) = 1) ∧ Q 0 M1)) ∧ (¬ y2 = 0 → es_Call d 56 [.inr (.inr 1), .inl a2] M1 (fun y4 M3 => ((¬ y4 = 0 → es_Call d 57 [.inr (.inr 1), .inl a1] M3 (fun y6 M5 => es_Call d 6 [.inl (es_or y6 (es_shl 1 a1)), .inl a2] M5 (fun y8 M7 => ((y8 = 0 → ((0 ≤ a2 ∧ a2 < 10) ∧ ((0 ≤ a2 ∧ a2 < 10) ∧ (((1 : Int) = 0 ∨ (1 : Int) = 1) ∧ Q 1 (es_upd M7 12 a2 (es_or (M7 12 a2) (es_shl 1 a1))))))) ∧ (¬ y8 = 0 → (((0 : Int) = 0 ∨ (0 : Int) = 1) ∧ Q 0 M7)))))) ∧ (y4 = 0 → (((0 : Int) = 0 ∨ (0 : Int) = 1) ∧ Q 0 M3)))))))) : es_Call (d + 1) 10 [.inr (.inr 0), .inl a1, .inl a2] M Q :=
  es_method (own := 0) (cd := cd_EveryStreet_ahead) (stop := st_EveryStreet_ahead) rfl rfl ck_EveryStreet_ahead rfl rfl fun _ hG => hG 34 0 _ _ _ h
def st_EveryStreet_shut : List (Nat × List Bool) := []
set_option maxRecDepth 10000 in
theorem c_EveryStreet_shut {d : Nat} {Q : Int → es_M → Prop} {a1 : Int} {a2 : Int} {M : es_M} (h : es_Call d 54 [.inr (.inr 1), .inl a1] M (fun y2 M1 => ((¬ y2 = 0 → ((a2 = 0 → (((1 : Int) = 0 ∨ (1 : Int) = 1) ∧ (((1 : Int) = 0 ∨ (1 : Int) = 1) ∧ Q 1 (es_upd (es_upd M1 14 4 (es_and (M1 14 4) (es_xor (es_shl 1 a1) (-1)))) 60 5 1)))) ∧ (¬ a2 = 0 → (((1 : Int) = 0 ∨ (1 : Int) = 1) ∧ (((1 : Int) = 0 ∨ (1 : Int) = 1) ∧ Q 1 (es_upd (es_upd M1 14 4 (es_or (M1 14 4) (es_shl 1 a1))) 60 5 1)))))) ∧ (y2 = 0 → (((0 : Int) = 0 ∨ (0 : Int) = 1) ∧ Q 0 M1))))) : es_Call (d + 1) 11 [.inr (.inr 0), .inl a1, .inl a2] M Q :=
  es_method (own := 0) (cd := cd_EveryStreet_shut) (stop := st_EveryStreet_shut) rfl rfl ck_EveryStreet_shut rfl rfl fun _ hG => hG 27 0 _ _ _ h
def st_EveryStreet_line : List (Nat × List Bool) := []
set_option maxRecDepth 10000 in
theorem c_EveryStreet_line {d : Nat} {Q : Int → es_M → Prop} {M : es_M} (h : es_Call d 125 [.inr (.inr 75), .inr (.inr 58)] M (fun y2 M1 => Q y2 M1)) : es_Call (d + 1) 12 [.inr (.inr 0)] M Q :=
  es_method (own := 0) (cd := cd_EveryStreet_line) (stop := st_EveryStreet_line) rfl rfl ck_EveryStreet_line rfl rfl fun _ hG => hG 6 0 _ _ _ h
def st_EveryStreet_far : List (Nat × List Bool) := []
set_option maxRecDepth 10000 in
theorem c_EveryStreet_far {d : Nat} {Q : Int → es_M → Prop} {a1 : Int} {a2 : Int} {M : es_M} (h : es_Call d 3 [.inl a1] M (fun y2 M1 => ((y2 = 0 → Q (-1) M1) ∧ (¬ y2 = 0 → es_Call d 3 [.inl a2] M1 (fun y4 M3 => ((¬ y4 = 0 → es_Call d 131 [.inr (.inr 75), .inl a1, .inl a2] M3 (fun y6 M5 => ((y6 < 1000000 → Q y6 M5) ∧ (¬ y6 < 1000000 → Q (-1) M5)))) ∧ (y4 = 0 → Q (-1) M3))))))) : es_Call (d + 1) 13 [.inr (.inr 0), .inl a1, .inl a2] M Q :=
  es_method (own := 0) (cd := cd_EveryStreet_far) (stop := st_EveryStreet_far) rfl rfl ck_EveryStreet_far rfl rfl fun _ hG => hG 18 0 _ _ _ h
def st_EveryStreet_pair : List (Nat × List Bool) := []
set_option maxRecDepth 10000 in
theorem c_EveryStreet_pair {d : Nat} {Q : Int → es_M → Prop} {M : es_M} (h : es_Call d 133 [.inr (.inr 75)] M (fun y2 M1 => ((y2 < 1000000 → es_Call d 136 [.inr (.inr 75), .inr (.inr 58)] M1 (fun _ M3 => Q y2 M3)) ∧ (¬ y2 < 1000000 → Q (-2) M1)))) : es_Call (d + 1) 14 [.inr (.inr 0)] M Q :=
  es_method (own := 0) (cd := cd_EveryStreet_pair) (stop := st_EveryStreet_pair) rfl rfl ck_EveryStreet_pair rfl rfl fun _ hG => hG 14 0 _ _ _ h
def st_EveryStreet_isOdd : List (Nat × List Bool) := []
set_option maxRecDepth 10000 in
theorem c_EveryStreet_isOdd {d : Nat} {Q : Int → es_M → Prop} {a0 : Int} {M : es_M} (h : es_Call d 288 [.inl a0] M (fun y2 M1 => ((¬ (es_and y2 1) = 1 → (((0 : Int) = 0 ∨ (0 : Int) = 1) ∧ Q 0 M1)) ∧ ((es_and y2 1) = 1 → (((1 : Int) = 0 ∨ (1 : Int) = 1) ∧ Q 1 M1))))) : es_Call (d + 1) 15 [.inl a0] M Q :=
  es_method (own := 0) (cd := cd_EveryStreet_isOdd) (stop := st_EveryStreet_isOdd) rfl rfl ck_EveryStreet_isOdd rfl rfl fun _ hG => hG 9 0 _ _ _ h
def st_EveryStreet_floor : List (Nat × List Bool) := []
set_option maxRecDepth 10000 in
theorem c_EveryStreet_floor {d : Nat} {Q : Int → es_M → Prop} {M : es_M} (h : es_Call d 133 [.inr (.inr 75)] M (fun y2 M1 => ((y2 < 1000000 → es_Call d 137 [.inr (.inr 75)] M1 (fun y4 M3 => Q (w32 (y2 + y4)) M3)) ∧ (¬ y2 < 1000000 → Q (-2) M1)))) : es_Call (d + 1) 16 [.inr (.inr 0)] M Q :=
  es_method (own := 0) (cd := cd_EveryStreet_floor) (stop := st_EveryStreet_floor) rfl rfl ck_EveryStreet_floor rfl rfl fun _ hG => hG 13 0 _ _ _ h
def st_EveryStreet_cut : List (Nat × List Bool) := []
set_option maxRecDepth 10000 in
theorem c_EveryStreet_cut {d : Nat} {Q : Int → es_M → Prop} {a1 : Int} {M : es_M} (h : ((a1 < 0 → Q (-1) M) ∧ (¬ a1 < 0 → ((a1 < 4096 → es_Call d 15 [.inl (es_and a1 (M 1 3))] M (fun y2 M1 => ((¬ y2 = 0 → es_Call d 138 [.inr (.inr 75), .inl a1] M1 (fun y4 M3 => ((y4 < 1000000 → Q y4 M3) ∧ (¬ y4 < 1000000 → Q (-2) M3)))) ∧ (y2 = 0 → Q 0 M1)))) ∧ (¬ a1 < 4096 → Q (-1) M))))) : es_Call (d + 1) 17 [.inr (.inr 0), .inl a1] M Q :=
  es_method (own := 0) (cd := cd_EveryStreet_cut) (stop := st_EveryStreet_cut) rfl rfl ck_EveryStreet_cut rfl rfl fun _ hG => hG 23 0 _ _ _ h
def st_EveryStreet_prove : List (Nat × List Bool) := []
set_option maxRecDepth 10000 in
theorem c_EveryStreet_prove {d : Nat} {Q : Int → es_M → Prop} {a1 : Int} {a2 : Int} {M : es_M} (h : ((a1 < 0 → Q (-1) M) ∧ (¬ a1 < 0 → ((4096 ≤ a1 → Q (-1) M) ∧ (¬ 4096 ≤ a1 → ((a2 < 1 → Q (-1) M) ∧ (¬ a2 < 1 → ((99 < a2 → Q (-1) M) ∧ (¬ 99 < a2 → (((M 14 3) < 12 → ((0 ≤ (M 14 3) ∧ (M 14 3) < 12) ∧ ((0 ≤ ((es_upd M 18 (M 14 3) a1) 14 3) ∧ ((es_upd M 18 (M 14 3) a1) 14 3) < 12) ∧ Q ((es_upd (es_upd (es_upd M 18 (M 14 3) a1) 19 ((es_upd M 18 (M 14 3) a1) 14 3) a2) 14 3 (w32 (((es_upd (es_upd M 18 (M 14 3) a1) 19 ((es_upd M 18 (M 14 3) a1) 14 3) a2) 14 3) + 1))) 14 3) (es_upd (es_upd (es_upd M 18 (M 14 3) a1) 19 ((es_upd M 18 (M 14 3) a1) 14 3) a2) 14 3 (w32 (((es_upd (es_upd M 18 (M 14 3) a1) 19 ((es_upd M 18 (M 14 3) a1) 14 3) a2) 14 3) + 1)))))) ∧ (¬ (M 14 3) < 12 → Q (-1) M))))))))))) : es_Call (d + 1) 18 [.inr (.inr 0), .inl a1, .inl a2] M Q :=
  es_method (own := 0) (cd := cd_EveryStreet_prove) (stop := st_EveryStreet_prove) rfl rfl ck_EveryStreet_prove rfl rfl fun _ hG => hG 43 0 _ _ _ h
def st_EveryStreet_worth : List (Nat × List Bool) := []
set_option maxRecDepth 10000 in
theorem c_EveryStreet_worth {d : Nat} {Q : Int → es_M → Prop} {M : es_M} (h : es_Call d 140 [.inr (.inr 75)] M (fun y2 M1 => ((¬ y2 = (-1) → Q (w32 ((-2) - y2)) M1) ∧ (y2 = (-1) → es_Call d 141 [.inr (.inr 75)] M1 (fun y4 M3 => Q y4 M3))))) : es_Call (d + 1) 19 [.inr (.inr 0)] M Q :=
  es_method (own := 0) (cd := cd_EveryStreet_worth) (stop := st_EveryStreet_worth) rfl rfl ck_EveryStreet_worth rfl rfl fun _ hG => hG 12 0 _ _ _ h
def st_EveryStreet_drop : List (Nat × List Bool) := []
set_option maxRecDepth 10000 in
theorem c_EveryStreet_drop {d : Nat} {Q : Int → es_M → Prop} {M : es_M} (h : Q (M 14 3) (es_upd M 14 3 0)) : es_Call (d + 1) 20 [.inr (.inr 0)] M Q :=
  es_method (own := 0) (cd := cd_EveryStreet_drop) (stop := st_EveryStreet_drop) rfl rfl ck_EveryStreet_drop rfl rfl fun _ hG => hG 10 0 _ _ _ h
def st_EveryStreet_level : List (Nat × List Bool) := []
set_option maxRecDepth 10000 in
theorem c_EveryStreet_level {d : Nat} {Q : Int → es_M → Prop} {M : es_M} (h : es_Call d 142 [.inr (.inr 79), .inr (.inr 58)] M (fun y2 M1 => Q y2 M1)) : es_Call (d + 1) 21 [.inr (.inr 0)] M Q :=
  es_method (own := 0) (cd := cd_EveryStreet_level) (stop := st_EveryStreet_level) rfl rfl ck_EveryStreet_level rfl rfl fun _ hG => hG 6 0 _ _ _ h
def st_EveryStreet_best : List (Nat × List Bool) := []
set_option maxRecDepth 10000 in
theorem c_EveryStreet_best {d : Nat} {Q : Int → es_M → Prop} {a1 : Int} {a2 : Int} {M : es_M} (h : es_Call d 3 [.inl a1] M (fun y2 M1 => ((y2 = 0 → Q (-1) M1) ∧ (¬ y2 = 0 → es_Call d 3 [.inl a2] M1 (fun y4 M3 => ((¬ y4 = 0 → es_Call d 58 [.inr (.inr 1)] M3 (fun y6 M5 => es_Call d 104 [.inr (.inr 67), .inl y6, .inl a2] M5 (fun _ M7 => es_Call d 108 [.inr (.inr 67), .inl a1, .inl (-1), .inl 0, .inr (.inr 58)] M7 (fun y9 M8 => Q y9 M8)))) ∧ (y4 = 0 → Q (-1) M3))))))) : es_Call (d + 1) 22 [.inr (.inr 0), .inl a1, .inl a2] M Q :=
  es_method (own := 0) (cd := cd_EveryStreet_best) (stop := st_EveryStreet_best) rfl rfl ck_EveryStreet_best rfl rfl fun _ hG => hG 22 0 _ _ _ h
def st_EveryStreet_some : List (Nat × List Bool) := []
set_option maxRecDepth 10000 in
theorem c_EveryStreet_some {d : Nat} {Q : Int → es_M → Prop} {a1 : Int} {a2 : Int} {M : es_M} (h : es_Call d 3 [.inl a1] M (fun y2 M1 => ((y2 = 0 → Q (-1) M1) ∧ (¬ y2 = 0 → es_Call d 58 [.inr (.inr 1)] M1 (fun y4 M3 => (((es_and a2 (es_xor y4 (-1))) = 0 → es_Call d 104 [.inr (.inr 67), .inl a2, .inl a1] M3 (fun _ M5 => es_Call d 108 [.inr (.inr 67), .inl a1, .inl (-1), .inl 0, .inr (.inr 58)] M5 (fun y7 M6 => Q y7 M6))) ∧ (¬ (es_and a2 (es_xor y4 (-1))) = 0 → Q (-1) M3))))))) : es_Call (d + 1) 23 [.inr (.inr 0), .inl a1, .inl a2] M Q :=
  es_method (own := 0) (cd := cd_EveryStreet_some) (stop := st_EveryStreet_some) rfl rfl ck_EveryStreet_some rfl rfl fun _ hG => hG 25 0 _ _ _ h
def st_EveryStreet_bars : List (Nat × List Bool) := [(26, [true, true, true])]
set_option maxRecDepth 10000 in
theorem k_EveryStreet_bars_0 {d : Nat} {Q : Int → es_M → Prop} {G : Nat → es_L → List AV → es_M → Prop} (hG : es_Cl cd_EveryStreet_bars st_EveryStreet_bars (some .int) d Q G) {a1 : Int} {M : es_M} (h : es_Call d 3 [.inl a1] M (fun y2 M1 => ((¬ y2 = 0 → es_Call d 98 [.inr (.inr 60), .inl a1, .inl (-1)] M1 (fun y4 M3 => ((y4 = 0 → G 26 [lr 0, li a1, li 0] [] M3) ∧ (¬ y4 = 0 → Q (-2) M3)))) ∧ (y2 = 0 → Q (-1) M1)))) : G 0 [lr 0, li a1, none] [] M := hG 12 0 _ _ _ h
set_option maxRecDepth 10000 in
theorem k_EveryStreet_bars_26 {d : Nat} {Q : Int → es_M → Prop} {G : Nat → es_L → List AV → es_M → Prop} (hG : es_Cl cd_EveryStreet_bars st_EveryStreet_bars (some .int) d Q G) {a1 : Int} {a2 : Int} {M : es_M} (h : ((12 ≤ a2 → Q (-1) M) ∧ (¬ 12 ≤ a2 → es_Call d 98 [.inr (.inr 60), .inl a1, .inl a2] M (fun y2 M1 => ((y2 = 0 → G 26 [lr 0, li a1, li (w32 (a2 + 1))] [] M1) ∧ (¬ y2 = 0 → Q a2 M1)))))) : G 26 [lr 0, li a1, li a2] [] M := hG 12 26 _ _ _ h
set_option maxRecDepth 10000 in
theorem m_EveryStreet_bars {d : Nat} {Q : Int → es_M → Prop} {a1 : Int} {M : es_M} (h : ∀ G : Nat → es_L → List AV → es_M → Prop, es_Cl cd_EveryStreet_bars st_EveryStreet_bars (some .int) d Q G → G 0 [lr 0, li a1, none] [] M) : es_Call (d + 1) 24 [.inr (.inr 0), .inl a1] M Q :=
  es_method (own := 0) (cd := cd_EveryStreet_bars) (stop := st_EveryStreet_bars) rfl rfl ck_EveryStreet_bars rfl rfl h
def st_EveryStreet_give : List (Nat × List Bool) := []
set_option maxRecDepth 10000 in
theorem c_EveryStreet_give {d : Nat} {Q : Int → es_M → Prop} {a1 : Int} {M : es_M} (h : es_Call d 3 [.inl a1] M (fun y2 M1 => ((¬ y2 = 0 → es_Call d 112 [.inr (.inr 67), .inl a1] M1 (fun _ M3 => es_Call d 115 [.inr (.inr 67)] M3 (fun y5 M4 => es_Call d 88 [.inr (.inr 58)] M4 (fun _ M6 => es_Call d 89 [.inr (.inr 58), .inl y5] M6 (fun _ M7 => es_Call d 288 [.inl y5] M7 (fun y9 M8 => Q y9 M8)))))) ∧ (y2 = 0 → Q (-1) M1)))) : es_Call (d + 1) 25 [.inr (.inr 0), .inl a1] M Q :=
  es_method (own := 0) (cd := cd_EveryStreet_give) (stop := st_EveryStreet_give) rfl rfl ck_EveryStreet_give rfl rfl fun _ hG => hG 21 0 _ _ _ h
def st_EveryStreet_go : List (Nat × List Bool) := []
set_option maxRecDepth 10000 in
theorem c_EveryStreet_go {d : Nat} {Q : Int → es_M → Prop} {a1 : Int} {M : es_M} (h : es_Call d 3 [.inl a1] M (fun y2 M1 => ((y2 = 0 → Q (-1) M1) ∧ (¬ y2 = 0 → (((M1 14 1) < 60 → (((M1 14 1) ≤ 0 → ((0 ≤ (M1 14 1) ∧ (M1 14 1) < 60) ∧ Q ((es_upd (es_upd M1 15 (M1 14 1) a1) 14 1 (w32 (((es_upd M1 15 (M1 14 1) a1) 14 1) + 1))) 14 1) (es_upd (es_upd M1 15 (M1 14 1) a1) 14 1 (w32 (((es_upd M1 15 (M1 14 1) a1) 14 1) + 1))))) ∧ (¬ (M1 14 1) ≤ 0 → es_Call d 68 [.inr (.inr 14)] M1 (fun y4 M3 => es_Call d 66 [.inr (.inr 1), .inl y4, .inl a1] M3 (fun y6 M5 => ((y6 = (-1) → Q (-1) M5) ∧ (¬ y6 = (-1) → es_Call d 91 [.inr (.inr 60), .inl y6] M5 (fun y8 M7 => ((¬ y8 = 0 → ((0 ≤ (w32 ((M7 14 1) - 1)) ∧ (w32 ((M7 14 1) - 1)) < 60) ∧ ((0 ≤ ((es_upd M7 16 (w32 ((M7 14 1) - 1)) y6) 14 1) ∧ ((es_upd M7 16 (w32 ((M7 14 1) - 1)) y6) 14 1) < 60) ∧ Q ((es_upd (es_upd (es_upd M7 16 (w32 ((M7 14 1) - 1)) y6) 15 ((es_upd M7 16 (w32 ((M7 14 1) - 1)) y6) 14 1) a1) 14 1 (w32 (((es_upd (es_upd M7 16 (w32 ((M7 14 1) - 1)) y6) 15 ((es_upd M7 16 (w32 ((M7 14 1) - 1)) y6) 14 1) a1) 14 1) + 1))) 14 1) (es_upd (es_upd (es_upd M7 16 (w32 ((M7 14 1) - 1)) y6) 15 ((es_upd M7 16 (w32 ((M7 14 1) - 1)) y6) 14 1) a1) 14 1 (w32 (((es_upd (es_upd M7 16 (w32 ((M7 14 1) - 1)) y6) 15 ((es_upd M7 16 (w32 ((M7 14 1) - 1)) y6) 14 1) a1) 14 1) + 1)))))) ∧ (y8 = 0 → Q (-1) M7)))))))))) ∧ (¬ (M1 14 1) < 60 → Q (-1) M1)))))) : es_Call (d + 1) 26 [.inr (.inr 0), .inl a1] M Q :=
  es_method (own := 0) (cd := cd_EveryStreet_go) (stop := st_EveryStreet_go) rfl rfl ck_EveryStreet_go rfl rfl fun _ hG => hG 57 0 _ _ _ h
def st_EveryStreet_undo : List (Nat × List Bool) := []
set_option maxRecDepth 10000 in
theorem c_EveryStreet_undo {d : Nat} {Q : Int → es_M → Prop} {a1 : Int} {M : es_M} (h : ((a1 < 0 → (((0 : Int) = 0 ∨ (0 : Int) = 1) ∧ Q 0 M)) ∧ (¬ a1 < 0 → ((a1 ≤ (M 14 1) → (((1 : Int) = 0 ∨ (1 : Int) = 1) ∧ Q 1 (es_upd M 14 1 a1))) ∧ (¬ a1 ≤ (M 14 1) → (((0 : Int) = 0 ∨ (0 : Int) = 1) ∧ Q 0 M)))))) : es_Call (d + 1) 27 [.inr (.inr 0), .inl a1] M Q :=
  es_method (own := 0) (cd := cd_EveryStreet_undo) (stop := st_EveryStreet_undo) rfl rfl ck_EveryStreet_undo rfl rfl fun _ hG => hG 13 0 _ _ _ h
def st_EveryStreet_judge : List (Nat × List Bool) := [(18, [true, true, true, true, false])]
set_option maxRecDepth 10000 in
theorem k_EveryStreet_judge_0 {d : Nat} {Q : Int → es_M → Prop} {G : Nat → es_L → List AV → es_M → Prop} (hG : es_Cl cd_EveryStreet_judge st_EveryStreet_judge (some .int) d Q G) {M : es_M} (h : ((¬ (M 14 1) = 0 → G 18 [lr 0, li 0, li 0, li 0, none] [] M) ∧ ((M 14 1) = 0 → Q (-1) M))) : G 0 [lr 0, none, none, none, none] [] M := hG 11 0 _ _ _ h
set_option maxRecDepth 10000 in
theorem k_EveryStreet_judge_18 {d : Nat} {Q : Int → es_M → Prop} {G : Nat → es_L → List AV → es_M → Prop} (hG : es_Cl cd_EveryStreet_judge st_EveryStreet_judge (some .int) d Q G) {a1 : Int} {a2 : Int} {a3 : Int} {M : es_M} (h : (((M 14 1) ≤ (w32 (a3 + 1)) → es_Call d 88 [.inr (.inr 58)] M (fun _ M1 => es_Call d 89 [.inr (.inr 58), .inl a2] M1 (fun _ M2 => es_Call d 29 [.inr (.inr 0)] M2 (fun y4 M3 => es_Call d 89 [.inr (.inr 58), .inl y4] M3 (fun _ M5 => Q a1 M5))))) ∧ (¬ (M 14 1) ≤ (w32 (a3 + 1)) → es_Call d 103 [.inr (.inr 60), .inl a3] M (fun y7 M6 => ((¬ y7 = (-1) → ((0 ≤ a3 ∧ a3 < 60) ∧ es_Call d 61 [.inr (.inr 1), .inl (M6 16 a3)] M6 (fun y9 M8 => G 18 [lr 0, li a1, li (w32 (a2 + (w32 ((max y7 0) + y9)))), li (w32 (a3 + 1)), none] [] M8))) ∧ (y7 = (-1) → ((¬ a1 = 0 → ((0 ≤ a3 ∧ a3 < 60) ∧ es_Call d 61 [.inr (.inr 1), .inl (M6 16 a3)] M6 (fun y11 M10 => G 18 [lr 0, li a1, li (w32 (a2 + (w32 ((max y7 0) + y11)))), li (w32 (a3 + 1)), none] [] M10))) ∧ (a1 = 0 → ((0 ≤ a3 ∧ a3 < 60) ∧ es_Call d 61 [.inr (.inr 1), .inl (M6 16 a3)] M6 (fun y13 M12 => G 18 [lr 0, li (w32 ((-2) - a3)), li (w32 (a2 + (w32 ((max y7 0) + y13)))), li (w32 (a3 + 1)), none] [] M12)))))))))) : G 18 [lr 0, li a1, li a2, li a3, none] [] M := hG 39 18 _ _ _ h
set_option maxRecDepth 10000 in
theorem m_EveryStreet_judge {d : Nat} {Q : Int → es_M → Prop} {M : es_M} (h : ∀ G : Nat → es_L → List AV → es_M → Prop, es_Cl cd_EveryStreet_judge st_EveryStreet_judge (some .int) d Q G → G 0 [lr 0, none, none, none, none] [] M) : es_Call (d + 1) 28 [.inr (.inr 0)] M Q :=
  es_method (own := 0) (cd := cd_EveryStreet_judge) (stop := st_EveryStreet_judge) rfl rfl ck_EveryStreet_judge rfl rfl h
def st_EveryStreet_doneByHand : List (Nat × List Bool) := [(12, [true, true, true, true])]
set_option maxRecDepth 10000 in
theorem k_EveryStreet_doneByHand_0 {d : Nat} {Q : Int → es_M → Prop} {G : Nat → es_L → List AV → es_M → Prop} (hG : es_Cl cd_EveryStreet_doneByHand st_EveryStreet_doneByHand (some .int) d Q G) {M : es_M} (h : es_Call d 58 [.inr (.inr 1)] M (fun y2 M1 => G 12 [lr 0, li y2, li 0, li 0] [] M1)) : G 0 [lr 0, none, none, none] [] M := hG 9 0 _ _ _ h
set_option maxRecDepth 10000 in
theorem k_EveryStreet_doneByHand_12 {d : Nat} {Q : Int → es_M → Prop} {G : Nat → es_L → List AV → es_M → Prop} (hG : es_Cl cd_EveryStreet_doneByHand st_EveryStreet_doneByHand (some .int) d Q G) {a1 : Int} {a2 : Int} {a3 : Int} {M : es_M} (h : (((M 14 1) ≤ (w32 (a3 + 1)) → Q a2 M) ∧ (¬ (M 14 1) ≤ (w32 (a3 + 1)) → ((0 ≤ a3 ∧ a3 < 60) ∧ es_Call d 65 [.inr (.inr 1), .inl (M 16 a3), .inl a2, .inl a1] M (fun y2 M1 => G 12 [lr 0, li a1, li y2, li (w32 (a3 + 1))] [] M1))))) : G 12 [lr 0, li a1, li a2, li a3] [] M := hG 21 12 _ _ _ h
set_option maxRecDepth 10000 in
theorem m_EveryStreet_doneByHand {d : Nat} {Q : Int → es_M → Prop} {M : es_M} (h : ∀ G : Nat → es_L → List AV → es_M → Prop, es_Cl cd_EveryStreet_doneByHand st_EveryStreet_doneByHand (some .int) d Q G → G 0 [lr 0, none, none, none] [] M) : es_Call (d + 1) 29 [.inr (.inr 0)] M Q :=
  es_method (own := 0) (cd := cd_EveryStreet_doneByHand) (stop := st_EveryStreet_doneByHand) rfl rfl ck_EveryStreet_doneByHand rfl rfl h
def st_EveryStreet_rest : List (Nat × List Bool) := []
set_option maxRecDepth 10000 in
theorem c_EveryStreet_rest {d : Nat} {Q : Int → es_M → Prop} {M : es_M} (h : ((¬ (M 14 1) = 0 → es_Call d 58 [.inr (.inr 1)] M (fun y2 M1 => (((0 : Int) ≤ 0 ∧ (0 : Int) < 60) ∧ es_Call d 104 [.inr (.inr 67), .inl y2, .inl (M1 15 0)] M1 (fun _ M3 => (((M3 14 1) ≤ 1 → es_Call d 68 [.inr (.inr 14)] M3 (fun y5 M4 => es_Call d 29 [.inr (.inr 0)] M4 (fun y7 M6 => es_Call d 108 [.inr (.inr 67), .inl y5, .inl (-1), .inl y7, .inr (.inr 58)] M6 (fun y9 M8 => Q y9 M8)))) ∧ (¬ (M3 14 1) ≤ 1 → ((0 ≤ (w32 ((M3 14 1) - 2)) ∧ (w32 ((M3 14 1) - 2)) < 60) ∧ es_Call d 68 [.inr (.inr 14)] M3 (fun y11 M10 => es_Call d 29 [.inr (.inr 0)] M10 (fun y13 M12 => es_Call d 108 [.inr (.inr 67), .inl y11, .inl (M3 16 (w32 ((M3 14 1) - 2))), .inl y13, .inr (.inr 58)] M12 (fun y15 M14 => Q y15 M14)))))))))) ∧ ((M 14 1) = 0 → Q (-1) M))) : es_Call (d + 1) 30 [.inr (.inr 0)] M Q :=
  es_method (own := 0) (cd := cd_EveryStreet_rest) (stop := st_EveryStreet_rest) rfl rfl ck_EveryStreet_rest rfl rfl fun _ hG => hG 43 0 _ _ _ h
def st_EveryStreet_timed : List (Nat × List Bool) := []
set_option maxRecDepth 10000 in
theorem c_EveryStreet_timed {d : Nat} {Q : Int → es_M → Prop} {a1 : Int} {M : es_M} (h : es_Call d 32 [.inl a1] M (fun y2 M1 => ((y2 = 0 → Q (-1) M1) ∧ (¬ y2 = 0 → ((¬ (M1 14 1) = 0 → es_Call d 159 [.inr (.inr 88), .inl a1, .inr (.inr 58)] M1 (fun y4 M3 => Q y4 M3)) ∧ ((M1 14 1) = 0 → Q (-1) M1)))))) : es_Call (d + 1) 31 [.inr (.inr 0), .inl a1] M Q :=
  es_method (own := 0) (cd := cd_EveryStreet_timed) (stop := st_EveryStreet_timed) rfl rfl ck_EveryStreet_timed rfl rfl fun _ hG => hG 14 0 _ _ _ h
def st_EveryStreet_isMinute : List (Nat × List Bool) := []
set_option maxRecDepth 10000 in
theorem c_EveryStreet_isMinute {d : Nat} {Q : Int → es_M → Prop} {a0 : Int} {M : es_M} (h : ((a0 < 0 → (((0 : Int) = 0 ∨ (0 : Int) = 1) ∧ Q 0 M)) ∧ (¬ a0 < 0 → ((1439 < a0 → (((0 : Int) = 0 ∨ (0 : Int) = 1) ∧ Q 0 M)) ∧ (¬ 1439 < a0 → (((1 : Int) = 0 ∨ (1 : Int) = 1) ∧ Q 1 M)))))) : es_Call (d + 1) 32 [.inl a0] M Q :=
  es_method (own := 0) (cd := cd_EveryStreet_isMinute) (stop := st_EveryStreet_isMinute) rfl rfl ck_EveryStreet_isMinute rfl rfl fun _ hG => hG 8 0 _ _ _ h
def st_EveryStreet_busy : List (Nat × List Bool) := [(50, [true, true, true, true, true, true, true])]
set_option maxRecDepth 10000 in
theorem k_EveryStreet_busy_0 {d : Nat} {Q : Int → es_M → Prop} {G : Nat → es_L → List AV → es_M → Prop} (hG : es_Cl cd_EveryStreet_busy st_EveryStreet_busy (some .int) d Q G) {a1 : Int} {a2 : Int} {a3 : Int} {a4 : Int} {M : es_M} (h : ((a1 < 0 → Q (-1) M) ∧ (¬ a1 < 0 → ((3 < a1 → Q (-1) M) ∧ (¬ 3 < a1 → ((a2 ≤ 24 → ((¬ a1 = 3 → ((0 ≤ a2 → G 50 [lr 0, li a1, li a2, li a3, li a4, li 0, li 0] [] M) ∧ (¬ 0 ≤ a2 → Q (-2) M))) ∧ (a1 = 3 → es_Call d 290 [.inr (.inr 20), .inl 100] M (fun _ M1 => Q (-3) M1)))) ∧ (¬ a2 ≤ 24 → Q (-1) M))))))) : G 0 [lr 0, li a1, li a2, li a3, li a4, none, none] [] M := hG 18 0 _ _ _ h
set_option maxRecDepth 10000 in
theorem k_EveryStreet_busy_50 {d : Nat} {Q : Int → es_M → Prop} {G : Nat → es_L → List AV → es_M → Prop} (hG : es_Cl cd_EveryStreet_busy st_EveryStreet_busy (some .int) d Q G) {a1 : Int} {a2 : Int} {a3 : Int} {a4 : Int} {a5 : Int} {a6 : Int} {M : es_M} (h : ((24 ≤ a6 → Q a5 M) ∧ (¬ 24 ≤ a6 → ((a2 ≤ a6 → ((0 ≤ a6 ∧ a6 < 24) ∧ ((0 ≤ a6 ∧ a6 < 24) ∧ G 50 [lr 0, li a1, li a2, li a3, li a4, li (w32 (a5 + ((es_upd M 20 a6 100) 20 a6))), li (w32 (a6 + 1))] [] (es_upd M 20 a6 100)))) ∧ (¬ a2 ≤ a6 → es_Call d 161 [.inl a1, .inl (w32 (a3 + (w32 (a4 * a6))))] M (fun y2 M1 => ((0 ≤ a6 ∧ a6 < 24) ∧ ((0 ≤ a6 ∧ a6 < 24) ∧ G 50 [lr 0, li a1, li a2, li a3, li a4, li (w32 (a5 + ((es_upd M1 20 a6 y2) 20 a6))), li (w32 (a6 + 1))] [] (es_upd M1 20 a6 y2))))))))) : G 50 [lr 0, li a1, li a2, li a3, li a4, li a5, li a6] [] M := hG 30 50 _ _ _ h
set_option maxRecDepth 10000 in
theorem m_EveryStreet_busy {d : Nat} {Q : Int → es_M → Prop} {a1 : Int} {a2 : Int} {a3 : Int} {a4 : Int} {M : es_M} (h : ∀ G : Nat → es_L → List AV → es_M → Prop, es_Cl cd_EveryStreet_busy st_EveryStreet_busy (some .int) d Q G → G 0 [lr 0, li a1, li a2, li a3, li a4, none, none] [] M) : es_Call (d + 1) 33 [.inr (.inr 0), .inl a1, .inl a2, .inl a3, .inl a4] M Q :=
  es_method (own := 0) (cd := cd_EveryStreet_busy) (stop := st_EveryStreet_busy) rfl rfl ck_EveryStreet_busy rfl rfl h
def st_EveryStreet_open : List (Nat × List Bool) := []
set_option maxRecDepth 10000 in
theorem c_EveryStreet_open {d : Nat} {Q : Int → es_M → Prop} {a1 : Int} {a2 : Int} {a3 : Int} {M : es_M} (h : es_Call d 54 [.inr (.inr 1), .inl a1] M (fun y2 M1 => ((y2 = 0 → (((0 : Int) = 0 ∨ (0 : Int) = 1) ∧ Q 0 M1)) ∧ (¬ y2 = 0 → es_Call d 32 [.inl a2] M1 (fun y4 M3 => ((y4 = 0 → (((0 : Int) = 0 ∨ (0 : Int) = 1) ∧ Q 0 M3)) ∧ (¬ y4 = 0 → es_Call d 32 [.inl a3] M3 (fun y6 M5 => ((y6 = 0 → (((0 : Int) = 0 ∨ (0 : Int) = 1) ∧ Q 0 M5)) ∧ (¬ y6 = 0 → ((a2 ≤ a3 → ((0 ≤ a1 ∧ a1 < 18) ∧ ((0 ≤ a1 ∧ a1 < 18) ∧ (((1 : Int) = 0 ∨ (1 : Int) = 1) ∧ Q 1 (es_upd (es_upd M5 21 a1 a2) 22 a1 a3))))) ∧ (¬ a2 ≤ a3 → (((0 : Int) = 0 ∨ (0 : Int) = 1) ∧ Q 0 M5))))))))))))) : es_Call (d + 1) 34 [.inr (.inr 0), .inl a1, .inl a2, .inl a3] M Q :=
  es_method (own := 0) (cd := cd_EveryStreet_open) (stop := st_EveryStreet_open) rfl rfl ck_EveryStreet_open rfl rfl fun _ hG => hG 28 0 _ _ _ h
def st_EveryStreet_soonest : List (Nat × List Bool) := []
set_option maxRecDepth 10000 in
theorem c_EveryStreet_soonest {d : Nat} {Q : Int → es_M → Prop} {a1 : Int} {a2 : Int} {M : es_M} (h : es_Call d 3 [.inl a1] M (fun y2 M1 => ((y2 = 0 → Q (-1) M1) ∧ (¬ y2 = 0 → es_Call d 32 [.inl a2] M1 (fun y4 M3 => ((¬ y4 = 0 → es_Call d 162 [.inr (.inr 88), .inl a1, .inl a2] M3 (fun y6 M5 => ((y6 < 1000000 → Q y6 M5) ∧ (¬ y6 < 1000000 → Q (-2) M5)))) ∧ (y4 = 0 → Q (-1) M3))))))) : es_Call (d + 1) 35 [.inr (.inr 0), .inl a1, .inl a2] M Q :=
  es_method (own := 0) (cd := cd_EveryStreet_soonest) (stop := st_EveryStreet_soonest) rfl rfl ck_EveryStreet_soonest rfl rfl fun _ hG => hG 18 0 _ _ _ h
def st_EveryStreet_add : List (Nat × List Bool) := []
set_option maxRecDepth 10000 in
theorem c_EveryStreet_add {d : Nat} {Q : Int → es_M → Prop} {a1 : Int} {a2 : Int} {M : es_M} (h : es_Call d 56 [.inr (.inr 1), .inl a1] M (fun y2 M1 => ((y2 = 0 → Q (-1) M1) ∧ (¬ y2 = 0 → es_Call d 148 [.inr (.inr 84), .inl a1] M1 (fun y4 M3 => ((y4 = 0 → ((a2 = 0 → es_Call d 59 [.inr (.inr 1), .inl (w32 ((w32 (2 * a1)) + 0))] M3 (fun y6 M5 => ((¬ y6 = 0 → ((0 ≤ (M5 14 2) ∧ (M5 14 2) < 10) ∧ Q ((es_upd (es_upd M5 17 (M5 14 2) (w32 ((w32 (2 * a1)) + 0))) 14 2 (w32 (((es_upd M5 17 (M5 14 2) (w32 ((w32 (2 * a1)) + 0))) 14 2) + 1))) 14 2) (es_upd (es_upd M5 17 (M5 14 2) (w32 ((w32 (2 * a1)) + 0))) 14 2 (w32 (((es_upd M5 17 (M5 14 2) (w32 ((w32 (2 * a1)) + 0))) 14 2) + 1))))) ∧ (y6 = 0 → Q (-1) M5)))) ∧ (¬ a2 = 0 → es_Call d 59 [.inr (.inr 1), .inl (w32 ((w32 (2 * a1)) + 1))] M3 (fun y8 M7 => ((¬ y8 = 0 → ((0 ≤ (M7 14 2) ∧ (M7 14 2) < 10) ∧ Q ((es_upd (es_upd M7 17 (M7 14 2) (w32 ((w32 (2 * a1)) + 1))) 14 2 (w32 (((es_upd M7 17 (M7 14 2) (w32 ((w32 (2 * a1)) + 1))) 14 2) + 1))) 14 2) (es_upd (es_upd M7 17 (M7 14 2) (w32 ((w32 (2 * a1)) + 1))) 14 2 (w32 (((es_upd M7 17 (M7 14 2) (w32 ((w32 (2 * a1)) + 1))) 14 2) + 1))))) ∧ (y8 = 0 → Q (-1) M7)))))) ∧ (¬ y4 = 0 → Q (-1) M3))))))) : es_Call (d + 1) 36 [.inr (.inr 0), .inl a1, .inl a2] M Q :=
  es_method (own := 0) (cd := cd_EveryStreet_add) (stop := st_EveryStreet_add) rfl rfl ck_EveryStreet_add rfl rfl fun _ hG => hG 43 0 _ _ _ h
def st_EveryStreet_order : List (Nat × List Bool) := []
set_option maxRecDepth 10000 in
theorem c_EveryStreet_order {d : Nat} {Q : Int → es_M → Prop} {M : es_M} (h : ((¬ (M 14 2) = 0 → es_Call d 149 [.inr (.inr 84)] M (fun y2 M1 => ((y2 < 1000000 → Q y2 M1) ∧ (¬ y2 < 1000000 → Q (-2) M1)))) ∧ ((M 14 2) = 0 → Q (-1) M))) : es_Call (d + 1) 37 [.inr (.inr 0)] M Q :=
  es_method (own := 0) (cd := cd_EveryStreet_order) (stop := st_EveryStreet_order) rfl rfl ck_EveryStreet_order rfl rfl fun _ hG => hG 14 0 _ _ _ h
def st_EveryStreet_build : List (Nat × List Bool) := []
set_option maxRecDepth 10000 in
theorem c_EveryStreet_build {d : Nat} {Q : Int → es_M → Prop} {M : es_M} (h : ((¬ (M 1 1) = 0 → es_Call d 151 [.inr (.inr 84)] M (fun y2 M1 => Q y2 M1)) ∧ ((M 1 1) = 0 → Q (-1) M))) : es_Call (d + 1) 38 [.inr (.inr 0)] M Q :=
  es_method (own := 0) (cd := cd_EveryStreet_build) (stop := st_EveryStreet_build) rfl rfl ck_EveryStreet_build rfl rfl fun _ hG => hG 8 0 _ _ _ h
def st_EveryStreet_better : List (Nat × List Bool) := []
set_option maxRecDepth 10000 in
theorem c_EveryStreet_better {d : Nat} {Q : Int → es_M → Prop} {M : es_M} (h : ((¬ (M 14 2) = 0 → es_Call d 154 [.inr (.inr 84)] M (fun y2 M1 => Q y2 M1)) ∧ ((M 14 2) = 0 → Q (-1) M))) : es_Call (d + 1) 39 [.inr (.inr 0)] M Q :=
  es_method (own := 0) (cd := cd_EveryStreet_better) (stop := st_EveryStreet_better) rfl rfl ck_EveryStreet_better rfl rfl fun _ hG => hG 8 0 _ _ _ h
def st_EveryStreet_pass : List (Nat × List Bool) := []
set_option maxRecDepth 10000 in
theorem c_EveryStreet_pass {d : Nat} {Q : Int → es_M → Prop} {a1 : Int} {a2 : Int} {M : es_M} (h : ((a1 < 0 → Q (-1) M) ∧ (¬ a1 < 0 → ((a1 < (M 14 2) → (((¬ a2 = 0 ∧ (¬ a2 = 1 ∧ True)) → Q (-1) M) ∧ ((a2 = 0 → ((0 ≤ a1 ∧ a1 < 10) ∧ Q (es_shr (M 17 a1) 1) M)) ∧ (¬ a2 = 0 → ((a2 = 1 → ((0 ≤ a1 ∧ a1 < 10) ∧ Q (es_and (M 17 a1) 1) M)) ∧ (¬ a2 = 1 → True)))))) ∧ (¬ a1 < (M 14 2) → Q (-1) M))))) : es_Call (d + 1) 40 [.inr (.inr 0), .inl a1, .inl a2] M Q :=
  es_method (own := 0) (cd := cd_EveryStreet_pass) (stop := st_EveryStreet_pass) rfl rfl ck_EveryStreet_pass rfl rfl fun _ hG => hG 17 0 _ _ _ h
def st_EveryStreet_carts : List (Nat × List Bool) := []
set_option maxRecDepth 10000 in
theorem c_EveryStreet_carts {d : Nat} {Q : Int → es_M → Prop} {a1 : Int} {a2 : Int} {a3 : Int} {a4 : Int} {M : es_M} (h : es_Call d 3 [.inl a1] M (fun y2 M1 => ((y2 = 0 → Q (-1) M1) ∧ (¬ y2 = 0 → ((a2 < 1 → Q (-1) M1) ∧ (¬ a2 < 1 → ((4 < a2 → Q (-1) M1) ∧ (¬ 4 < a2 → ((a3 < 1 → Q (-1) M1) ∧ (¬ a3 < 1 → ((a3 ≤ 99 → ((a4 = 0 → es_Call d 112 [.inr (.inr 67), .inl a1] M1 (fun _ M3 => es_Call d 116 [.inr (.inr 72), .inr (.inr 71), .inl a3] M3 (fun _ M4 => ((¬ a4 = 1 → es_Call d 117 [.inr (.inr 72), .inl a2, .inl 0, .inr (.inr 58)] M4 (fun y6 M5 => Q y6 M5)) ∧ (a4 = 1 → es_Call d 117 [.inr (.inr 72), .inl a2, .inl 1, .inr (.inr 58)] M4 (fun y8 M7 => Q y8 M7)))))) ∧ (¬ a4 = 0 → ((a4 = 1 → es_Call d 112 [.inr (.inr 67), .inl a1] M1 (fun _ M9 => es_Call d 116 [.inr (.inr 72), .inr (.inr 71), .inl a3] M9 (fun _ M10 => ((¬ a4 = 1 → es_Call d 117 [.inr (.inr 72), .inl a2, .inl 0, .inr (.inr 58)] M10 (fun y12 M11 => Q y12 M11)) ∧ (a4 = 1 → es_Call d 117 [.inr (.inr 72), .inl a2, .inl 1, .inr (.inr 58)] M10 (fun y14 M13 => Q y14 M13)))))) ∧ (¬ a4 = 1 → Q (-1) M1))))) ∧ (¬ a3 ≤ 99 → Q (-1) M1)))))))))))) : es_Call (d + 1) 41 [.inr (.inr 0), .inl a1, .inl a2, .inl a3, .inl a4] M Q :=
  es_method (own := 0) (cd := cd_EveryStreet_carts) (stop := st_EveryStreet_carts) rfl rfl ck_EveryStreet_carts rfl rfl fun _ hG => hG 43 0 _ _ _ h
def st_EveryStreet_parts : List (Nat × List Bool) := []
set_option maxRecDepth 10000 in
theorem c_EveryStreet_parts {d : Nat} {Q : Int → es_M → Prop} {a1 : Int} {M : es_M} (h : ((a1 < 1 → Q (-1) M) ∧ (¬ a1 < 1 → ((a1 ≤ 4 → es_Call d 121 [.inr (.inr 72)] M (fun _ M1 => es_Call d 117 [.inr (.inr 72), .inl a1, .inl 1, .inr (.inr 58)] M1 (fun y3 M2 => Q y3 M2))) ∧ (¬ a1 ≤ 4 → Q (-1) M))))) : es_Call (d + 1) 42 [.inr (.inr 0), .inl a1] M Q :=
  es_method (own := 0) (cd := cd_EveryStreet_parts) (stop := st_EveryStreet_parts) rfl rfl ck_EveryStreet_parts rfl rfl fun _ hG => hG 17 0 _ _ _ h
def st_EveryStreet_straight : List (Nat × List Bool) := []
set_option maxRecDepth 10000 in
theorem c_EveryStreet_straight {d : Nat} {Q : Int → es_M → Prop} {a1 : Int} {a2 : Int} {a3 : Int} {M : es_M} (h : es_Call d 50 [.inr (.inr 1), .inl a1, .inl a2] M (fun y2 M1 => ((¬ y2 = (-1) → ((a3 = (-1) → ((0 ≤ (w32 ((w32 (a1 * 12)) + a2)) ∧ (w32 ((w32 (a1 * 12)) + a2)) < 144) ∧ (((1 : Int) = 0 ∨ (1 : Int) = 1) ∧ Q 1 (es_upd M1 23 (w32 ((w32 (a1 * 12)) + a2)) a3)))) ∧ (¬ a3 = (-1) → ((a3 = a1 → (((0 : Int) = 0 ∨ (0 : Int) = 1) ∧ Q 0 M1)) ∧ (¬ a3 = a1 → es_Call d 50 [.inr (.inr 1), .inl a2, .inl a3] M1 (fun y4 M3 => ((¬ y4 = (-1) → ((0 ≤ (w32 ((w32 (a1 * 12)) + a2)) ∧ (w32 ((w32 (a1 * 12)) + a2)) < 144) ∧ (((1 : Int) = 0 ∨ (1 : Int) = 1) ∧ Q 1 (es_upd M3 23 (w32 ((w32 (a1 * 12)) + a2)) a3)))) ∧ (y4 = (-1) → (((0 : Int) = 0 ∨ (0 : Int) = 1) ∧ Q 0 M3))))))))) ∧ (y2 = (-1) → (((0 : Int) = 0 ∨ (0 : Int) = 1) ∧ Q 0 M1))))) : es_Call (d + 1) 43 [.inr (.inr 0), .inl a1, .inl a2, .inl a3] M Q :=
  es_method (own := 0) (cd := cd_EveryStreet_straight) (stop := st_EveryStreet_straight) rfl rfl ck_EveryStreet_straight rfl rfl fun _ hG => hG 32 0 _ _ _ h
def st_EveryStreet_card : List (Nat × List Bool) := [(41, [true, false, true, true])]
set_option maxRecDepth 10000 in
theorem k_EveryStreet_card_0 {d : Nat} {Q : Int → es_M → Prop} {G : Nat → es_L → List AV → es_M → Prop} (hG : es_Cl cd_EveryStreet_card st_EveryStreet_card (some .int) d Q G) {M : es_M} (h : ((¬ (M 14 1) = 0 → es_Call d 69 [.inr (.inr 14)] M (fun y2 M1 => ((y2 = (-1) → es_Call d 88 [.inr (.inr 58)] M1 (fun _ M3 => G 41 [lr 0, none, li 0, li 1] [] M3)) ∧ (¬ y2 = (-1) → Q (w32 ((-2) - y2)) M1)))) ∧ ((M 14 1) = 0 → Q (-1) M))) : G 0 [lr 0, none, none, none] [] M := hG 19 0 _ _ _ h
set_option maxRecDepth 10000 in
theorem k_EveryStreet_card_41 {d : Nat} {Q : Int → es_M → Prop} {G : Nat → es_L → List AV → es_M → Prop} (hG : es_Cl cd_EveryStreet_card st_EveryStreet_card (some .int) d Q G) {a2 : Int} {a3 : Int} {M : es_M} (h : (((M 14 1) ≤ (w32 (a3 + 1)) → Q a2 M) ∧ (¬ (M 14 1) ≤ (w32 (a3 + 1)) → es_Call d 71 [.inr (.inr 14), .inl a3] M (fun y2 M1 => ((y2 = 0 → G 41 [lr 0, none, li a2, li (w32 (a3 + 1))] [] M1) ∧ (¬ y2 = 0 → ((0 ≤ (w32 (a3 - 1)) ∧ (w32 (a3 - 1)) < 60) ∧ es_Call d 89 [.inr (.inr 58), .inl (M1 15 (w32 (a3 - 1)))] M1 (fun _ M3 => ((0 ≤ a3 ∧ a3 < 60) ∧ es_Call d 89 [.inr (.inr 58), .inl (M3 15 a3)] M3 (fun _ M4 => ((0 ≤ (w32 (a3 + 1)) ∧ (w32 (a3 + 1)) < 60) ∧ es_Call d 89 [.inr (.inr 58), .inl (M4 15 (w32 (a3 + 1)))] M4 (fun _ M5 => G 41 [lr 0, none, li (w32 (a2 + 1)), li (w32 (a3 + 1))] [] M5)))))))))))) : G 41 [lr 0, none, li a2, li a3] [] M := hG 44 41 _ _ _ h
set_option maxRecDepth 10000 in
theorem m_EveryStreet_card {d : Nat} {Q : Int → es_M → Prop} {M : es_M} (h : ∀ G : Nat → es_L → List AV → es_M → Prop, es_Cl cd_EveryStreet_card st_EveryStreet_card (some .int) d Q G → G 0 [lr 0, none, none, none] [] M) : es_Call (d + 1) 44 [.inr (.inr 0)] M Q :=
  es_method (own := 0) (cd := cd_EveryStreet_card) (stop := st_EveryStreet_card) rfl rfl ck_EveryStreet_card rfl rfl h
def st_EveryStreet_mislead : List (Nat × List Bool) := [(21, [true, true, true, true])]
set_option maxRecDepth 10000 in
theorem k_EveryStreet_mislead_0 {d : Nat} {Q : Int → es_M → Prop} {G : Nat → es_L → List AV → es_M → Prop} (hG : es_Cl cd_EveryStreet_mislead st_EveryStreet_mislead (some .int) d Q G) {a1 : Int} {M : es_M} (h : ((a1 < 0 → Q (-1) M) ∧ (¬ a1 < 0 → es_Call d 69 [.inr (.inr 14)] M (fun y2 M1 => ((y2 = (-1) → G 21 [lr 0, li a1, li 0, li 1] [] M1) ∧ (¬ y2 = (-1) → Q (-1) M1)))))) : G 0 [lr 0, li a1, none, none] [] M := hG 12 0 _ _ _ h
set_option maxRecDepth 10000 in
theorem k_EveryStreet_mislead_21 {d : Nat} {Q : Int → es_M → Prop} {G : Nat → es_L → List AV → es_M → Prop} (hG : es_Cl cd_EveryStreet_mislead st_EveryStreet_mislead (some .int) d Q G) {a1 : Int} {a2 : Int} {a3 : Int} {M : es_M} (h : (((M 14 1) ≤ (w32 (a3 + 1)) → Q (-1) M) ∧ (¬ (M 14 1) ≤ (w32 (a3 + 1)) → es_Call d 71 [.inr (.inr 14), .inl a3] M (fun y2 M1 => ((y2 = 0 → G 21 [lr 0, li a1, li a2, li (w32 (a3 + 1))] [] M1) ∧ (¬ y2 = 0 → ((¬ a2 = a1 → G 21 [lr 0, li a1, li (w32 (a2 + 1)), li (w32 (a3 + 1))] [] M1) ∧ (a2 = a1 → Q a3 M1)))))))) : G 21 [lr 0, li a1, li a2, li a3] [] M := hG 19 21 _ _ _ h
set_option maxRecDepth 10000 in
theorem m_EveryStreet_mislead {d : Nat} {Q : Int → es_M → Prop} {a1 : Int} {M : es_M} (h : ∀ G : Nat → es_L → List AV → es_M → Prop, es_Cl cd_EveryStreet_mislead st_EveryStreet_mislead (some .int) d Q G → G 0 [lr 0, li a1, none, none] [] M) : es_Call (d + 1) 45 [.inr (.inr 0), .inl a1] M Q :=
  es_method (own := 0) (cd := cd_EveryStreet_mislead) (stop := st_EveryStreet_mislead) rfl rfl ck_EveryStreet_mislead rfl rfl h
def st_EveryStreet_keep : List (Nat × List Bool) := [(16, [true, true]), (29, [false, false])]
set_option maxRecDepth 10000 in
theorem k_EveryStreet_keep_0 {d : Nat} {Q : Int → es_M → Prop} {G : Nat → es_L → List AV → es_M → Prop} (hG : es_Cl cd_EveryStreet_keep st_EveryStreet_keep (some .boolean) d Q G) {a1 : Int} {M : es_M} (h : ((a1 < 0 → (((0 : Int) = 0 ∨ (0 : Int) = 1) ∧ Q 0 M)) ∧ (¬ a1 < 0 → ((a1 < 3 → G 16 [lr 0, li a1] [.inl a1, .inr (.inr 24)] M) ∧ (¬ a1 < 3 → (((0 : Int) = 0 ∨ (0 : Int) = 1) ∧ Q 0 M)))))) : G 0 [lr 0, li a1] [] M := hG 9 0 _ _ _ h
set_option maxRecDepth 10000 in
theorem k_EveryStreet_keep_16_0 {d : Nat} {Q : Int → es_M → Prop} {G : Nat → es_L → List AV → es_M → Prop} (hG : es_Cl cd_EveryStreet_keep st_EveryStreet_keep (some .boolean) d Q G) {a1 : Int} {M : es_M} (h : ((0 : Int) ≤ 0 ∧ es_Call d 72 [.inr (.inr 25), .inr (.inr 14)] M (fun _ M1 => G 29 [none, none] [.inl a1, .inr (.inr 24)] M1))) : G 16 [lr 0, li a1] [.inl 0, .inr (.inr 24)] M := hG 8 16 _ _ _ h
set_option maxRecDepth 10000 in
theorem k_EveryStreet_keep_16_1 {d : Nat} {Q : Int → es_M → Prop} {G : Nat → es_L → List AV → es_M → Prop} (hG : es_Cl cd_EveryStreet_keep st_EveryStreet_keep (some .boolean) d Q G) {a1 : Int} {M : es_M} (h : ((0 : Int) ≤ 1 ∧ es_Call d 72 [.inr (.inr 35), .inr (.inr 14)] M (fun _ M1 => G 29 [none, none] [.inl a1, .inr (.inr 24)] M1))) : G 16 [lr 0, li a1] [.inl 1, .inr (.inr 24)] M := hG 8 16 _ _ _ h
set_option maxRecDepth 10000 in
theorem k_EveryStreet_keep_16_2 {d : Nat} {Q : Int → es_M → Prop} {G : Nat → es_L → List AV → es_M → Prop} (hG : es_Cl cd_EveryStreet_keep st_EveryStreet_keep (some .boolean) d Q G) {a1 : Int} {M : es_M} (h : ((0 : Int) ≤ 2 ∧ es_Call d 72 [.inr (.inr 45), .inr (.inr 14)] M (fun _ M1 => G 29 [none, none] [.inl a1, .inr (.inr 24)] M1))) : G 16 [lr 0, li a1] [.inl 2, .inr (.inr 24)] M := hG 8 16 _ _ _ h
set_option maxRecDepth 10000 in
theorem k_EveryStreet_keep_29_0 {d : Nat} {Q : Int → es_M → Prop} {G : Nat → es_L → List AV → es_M → Prop} (hG : es_Cl cd_EveryStreet_keep st_EveryStreet_keep (some .boolean) d Q G) {M : es_M} (h : ((0 : Int) ≤ 0 ∧ (((1 : Int) = 0 ∨ (1 : Int) = 1) ∧ (((1 : Int) = 0 ∨ (1 : Int) = 1) ∧ Q 1 (es_upd M 25 0 1))))) : G 29 [none, none] [.inl 0, .inr (.inr 24)] M := hG 5 29 _ _ _ h
set_option maxRecDepth 10000 in
theorem k_EveryStreet_keep_29_1 {d : Nat} {Q : Int → es_M → Prop} {G : Nat → es_L → List AV → es_M → Prop} (hG : es_Cl cd_EveryStreet_keep st_EveryStreet_keep (some .boolean) d Q G) {M : es_M} (h : ((0 : Int) ≤ 1 ∧ (((1 : Int) = 0 ∨ (1 : Int) = 1) ∧ (((1 : Int) = 0 ∨ (1 : Int) = 1) ∧ Q 1 (es_upd M 35 0 1))))) : G 29 [none, none] [.inl 1, .inr (.inr 24)] M := hG 5 29 _ _ _ h
set_option maxRecDepth 10000 in
theorem k_EveryStreet_keep_29_2 {d : Nat} {Q : Int → es_M → Prop} {G : Nat → es_L → List AV → es_M → Prop} (hG : es_Cl cd_EveryStreet_keep st_EveryStreet_keep (some .boolean) d Q G) {M : es_M} (h : ((0 : Int) ≤ 2 ∧ (((1 : Int) = 0 ∨ (1 : Int) = 1) ∧ (((1 : Int) = 0 ∨ (1 : Int) = 1) ∧ Q 1 (es_upd M 45 0 1))))) : G 29 [none, none] [.inl 2, .inr (.inr 24)] M := hG 5 29 _ _ _ h
set_option maxRecDepth 10000 in
theorem m_EveryStreet_keep {d : Nat} {Q : Int → es_M → Prop} {a1 : Int} {M : es_M} (h : ∀ G : Nat → es_L → List AV → es_M → Prop, es_Cl cd_EveryStreet_keep st_EveryStreet_keep (some .boolean) d Q G → G 0 [lr 0, li a1] [] M) : es_Call (d + 1) 46 [.inr (.inr 0), .inl a1] M Q :=
  es_method (own := 0) (cd := cd_EveryStreet_keep) (stop := st_EveryStreet_keep) rfl rfl ck_EveryStreet_keep rfl rfl h
def st_EveryStreet_again : List (Nat × List Bool) := [(14, [true, true]), (32, [true, false])]
set_option maxRecDepth 10000 in
theorem k_EveryStreet_again_0 {d : Nat} {Q : Int → es_M → Prop} {G : Nat → es_L → List AV → es_M → Prop} (hG : es_Cl cd_EveryStreet_again st_EveryStreet_again (some .boolean) d Q G) {a1 : Int} {M : es_M} (h : ((a1 < 0 → (((0 : Int) = 0 ∨ (0 : Int) = 1) ∧ Q 0 M)) ∧ (¬ a1 < 0 → ((3 ≤ a1 → (((0 : Int) = 0 ∨ (0 : Int) = 1) ∧ Q 0 M)) ∧ (¬ 3 ≤ a1 → G 14 [lr 0, li a1] [.inl a1, .inr (.inr 24)] M))))) : G 0 [lr 0, li a1] [] M := hG 9 0 _ _ _ h
set_option maxRecDepth 10000 in
theorem k_EveryStreet_again_14_0 {d : Nat} {Q : Int → es_M → Prop} {G : Nat → es_L → List AV → es_M → Prop} (hG : es_Cl cd_EveryStreet_again st_EveryStreet_again (some .boolean) d Q G) {a1 : Int} {M : es_M} (h : ((0 : Int) ≤ 0 ∧ ((¬ (M 25 0) = 0 → G 32 [lr 0, none] [.inl a1, .inr (.inr 24), .inr (.inr 14)] M) ∧ ((M 25 0) = 0 → (((0 : Int) = 0 ∨ (0 : Int) = 1) ∧ Q 0 M))))) : G 14 [lr 0, li a1] [.inl 0, .inr (.inr 24)] M := hG 9 14 _ _ _ h
set_option maxRecDepth 10000 in
theorem k_EveryStreet_again_14_1 {d : Nat} {Q : Int → es_M → Prop} {G : Nat → es_L → List AV → es_M → Prop} (hG : es_Cl cd_EveryStreet_again st_EveryStreet_again (some .boolean) d Q G) {a1 : Int} {M : es_M} (h : ((0 : Int) ≤ 1 ∧ ((¬ (M 35 0) = 0 → G 32 [lr 0, none] [.inl a1, .inr (.inr 24), .inr (.inr 14)] M) ∧ ((M 35 0) = 0 → (((0 : Int) = 0 ∨ (0 : Int) = 1) ∧ Q 0 M))))) : G 14 [lr 0, li a1] [.inl 1, .inr (.inr 24)] M := hG 9 14 _ _ _ h
set_option maxRecDepth 10000 in
theorem k_EveryStreet_again_14_2 {d : Nat} {Q : Int → es_M → Prop} {G : Nat → es_L → List AV → es_M → Prop} (hG : es_Cl cd_EveryStreet_again st_EveryStreet_again (some .boolean) d Q G) {a1 : Int} {M : es_M} (h : ((0 : Int) ≤ 2 ∧ ((¬ (M 45 0) = 0 → G 32 [lr 0, none] [.inl a1, .inr (.inr 24), .inr (.inr 14)] M) ∧ ((M 45 0) = 0 → (((0 : Int) = 0 ∨ (0 : Int) = 1) ∧ Q 0 M))))) : G 14 [lr 0, li a1] [.inl 2, .inr (.inr 24)] M := hG 9 14 _ _ _ h
set_option maxRecDepth 10000 in
theorem k_EveryStreet_again_32_0 {d : Nat} {Q : Int → es_M → Prop} {G : Nat → es_L → List AV → es_M → Prop} (hG : es_Cl cd_EveryStreet_again st_EveryStreet_again (some .boolean) d Q G) {M : es_M} (h : ((0 : Int) ≤ 0 ∧ es_Call d 72 [.inr (.inr 14), .inr (.inr 25)] M (fun _ M1 => (((1 : Int) = 0 ∨ (1 : Int) = 1) ∧ (((1 : Int) = 0 ∨ (1 : Int) = 1) ∧ Q 1 (es_upd M1 60 5 1)))))) : G 32 [lr 0, none] [.inl 0, .inr (.inr 24), .inr (.inr 14)] M := hG 8 32 _ _ _ h
set_option maxRecDepth 10000 in
theorem k_EveryStreet_again_32_1 {d : Nat} {Q : Int → es_M → Prop} {G : Nat → es_L → List AV → es_M → Prop} (hG : es_Cl cd_EveryStreet_again st_EveryStreet_again (some .boolean) d Q G) {M : es_M} (h : ((0 : Int) ≤ 1 ∧ es_Call d 72 [.inr (.inr 14), .inr (.inr 35)] M (fun _ M1 => (((1 : Int) = 0 ∨ (1 : Int) = 1) ∧ (((1 : Int) = 0 ∨ (1 : Int) = 1) ∧ Q 1 (es_upd M1 60 5 1)))))) : G 32 [lr 0, none] [.inl 1, .inr (.inr 24), .inr (.inr 14)] M := hG 8 32 _ _ _ h
set_option maxRecDepth 10000 in
theorem k_EveryStreet_again_32_2 {d : Nat} {Q : Int → es_M → Prop} {G : Nat → es_L → List AV → es_M → Prop} (hG : es_Cl cd_EveryStreet_again st_EveryStreet_again (some .boolean) d Q G) {M : es_M} (h : ((0 : Int) ≤ 2 ∧ es_Call d 72 [.inr (.inr 14), .inr (.inr 45)] M (fun _ M1 => (((1 : Int) = 0 ∨ (1 : Int) = 1) ∧ (((1 : Int) = 0 ∨ (1 : Int) = 1) ∧ Q 1 (es_upd M1 60 5 1)))))) : G 32 [lr 0, none] [.inl 2, .inr (.inr 24), .inr (.inr 14)] M := hG 8 32 _ _ _ h
set_option maxRecDepth 10000 in
theorem m_EveryStreet_again {d : Nat} {Q : Int → es_M → Prop} {a1 : Int} {M : es_M} (h : ∀ G : Nat → es_L → List AV → es_M → Prop, es_Cl cd_EveryStreet_again st_EveryStreet_again (some .boolean) d Q G → G 0 [lr 0, li a1] [] M) : es_Call (d + 1) 47 [.inr (.inr 0), .inl a1] M Q :=
  es_method (own := 0) (cd := cd_EveryStreet_again) (stop := st_EveryStreet_again) rfl rfl ck_EveryStreet_again rfl rfl h
def st_EveryStreet_count : List (Nat × List Bool) := []
set_option maxRecDepth 10000 in
theorem c_EveryStreet_count {d : Nat} {Q : Int → es_M → Prop} {a1 : Int} {M : es_M} (h : (((a1 < 0 ∨ 10 < a1) → Q (-1) M) ∧ ((a1 = 0 → Q (M 1 0) M) ∧ ((a1 = 1 → Q (M 1 1) M) ∧ ((a1 = 2 → Q (M 14 5) M) ∧ ((a1 = 3 → Q (M 14 1) M) ∧ ((a1 = 4 → Q (M 14 2) M) ∧ ((a1 = 5 → Q (M 1 2) M) ∧ ((a1 = 6 → Q (M 58 1) M) ∧ ((a1 = 7 → Q (M 55 1) M) ∧ ((a1 = 8 → Q (M 1 3) M) ∧ ((a1 = 9 → es_Call d 288 [.inl (M 14 4)] M (fun y2 M1 => Q y2 M1)) ∧ ((a1 = 10 → Q (M 14 3) M) ∧ True))))))))))))) : es_Call (d + 1) 48 [.inr (.inr 0), .inl a1] M Q :=
  es_method (own := 0) (cd := cd_EveryStreet_count) (stop := st_EveryStreet_count) rfl rfl ck_EveryStreet_count rfl rfl fun _ hG => hG 7 0 _ _ _ h
def st_EveryStreet_row : List (Nat × List Bool) := []
set_option maxRecDepth 10000 in
theorem c_EveryStreet_row {d : Nat} {Q : Int → es_M → Prop} {a1 : Int} {M : es_M} (h : ((a1 < 0 → False) ∧ (¬ a1 < 0 → ((a1 < (M 58 1) → ((0 ≤ a1 ∧ a1 < 120) ∧ Q (M 59 a1) M)) ∧ (¬ a1 < (M 58 1) → False))))) : es_Call (d + 1) 49 [.inr (.inr 0), .inl a1] M Q :=
  es_method (own := 0) (cd := cd_EveryStreet_row) (stop := st_EveryStreet_row) rfl rfl ck_EveryStreet_row rfl rfl fun _ hG => hG 13 0 _ _ _ h
