def kdX : List Nat := [7, 6, 9, 3, 5, 9, 9, 9, 9, 9, 9, 9, 9, 9, 9, 9, 0, 9, 9, 9, 9, 9, 2, 9, 9, 9, 9, 9, 4, 9, 9, 5, 9, 9, 9, 9, 9, 9, 4, 9, 9, 3, 5, 9, 9, 9, 9, 9, 9, 9, 9, 9, 9, 9, 0, 9, 9, 9, 9, 9, 2, 9, 9, 9, 9, 9, 1]
def lnX : List Nat := [0, 0, 54, 0, 0, 8, 8, 8, 8, 8, 4, 8, 8, 8, 8, 8, 0, 7, 7, 7, 7, 7, 0, 14, 14, 14, 8, 8, 0, 6, 6, 0, 8, 8, 8, 8, 8, 4, 0, 6, 6, 0, 0, 8, 8, 8, 8, 8, 4, 8, 8, 8, 8, 8, 0, 7, 7, 7, 7, 7, 0, 14, 14, 14, 8, 8, 0]
def flX : List (List Nat) := [[3, 5, 30, 33, 40, 0, 0, 43, 68], [4, 0], [], [6, 13, 0, 14, 15, 16, 17, 0, 18, 24, 28, 0, 29], [7, 8, 9, 10, 11, 0, 12, 0], [], [], [], [], [], [], [], [], [], [], [], [19, 20, 21, 22, 23, 0], [], [], [], [], [], [25, 26, 27, 0], [], [], [], [], [], [31, 32, 0], [], [], [34, 35, 36, 37, 38, 0, 39, 0], [], [], [], [], [], [], [41, 42, 0], [], [], [44, 51, 0, 52, 53, 54, 55, 0, 56, 62, 66, 0, 67], [45, 46, 47, 48, 49, 0, 50, 0], [], [], [], [], [], [], [], [], [], [], [], [57, 58, 59, 60, 61, 0], [], [], [], [], [], [63, 64, 65, 0], [], [], [], [], [], [0]]
def XSh : Shape := (67, fun k => kdX.getD k 0, fun k => lnX.getD k 0, fun k j => (flX.getD k []).getD j 0)
def kdM : List Nat := [8, 9, 9, 9, 9, 9, 9, 9, 9, 9, 9, 9, 9, 9, 9, 9, 9, 9, 9, 9, 9]
def lnM : List Nat := [0, 54, 8, 32, 4, 8, 8, 40, 8, 8, 16, 16, 8, 4, 18, 8, 32, 8, 32, 4, 18]
def flM : List (List Nat) := [[3, 0, 0, 0, 0, 0, 0, 4, 5, 6, 0, 7, 0, 0, 0, 8, 0, 9, 0, 0, 10, 11, 12, 13, 14, 15, 0, 16, 0, 17, 18, 0, 0, 0, 0, 19, 20, 21, 22, 1], [], [], [], [], [], [], [], [], [], [], [], [], [], [], [], [], [], [], [], []]
def MSh : Shape := (21, fun k => kdM.getD k 0, fun k => lnM.getD k 0, fun k j => (flM.getD k []).getD j 0)
def ok0 (o : Nat) : Prop := o = 16 ∨ o = 54
def ok1 (o : Nat) : Prop := o = 66
def ok2 (o : Nat) : Prop := o = 22 ∨ o = 60
def ok3 (o : Nat) : Prop := o = 3 ∨ o = 41
def ok4 (o : Nat) : Prop := o = 28 ∨ o = 38
def ok5 (o : Nat) : Prop := o = 4 ∨ o = 31 ∨ o = 42
def ok6 (o : Nat) : Prop := o = 1
def ok7 (o : Nat) : Prop := o = 0
def ok8 (o : Nat) : Prop := o = 0
theorem ok0_16 : ok0 16 := Or.inl rfl
theorem ok0_54 : ok0 54 := Or.inr rfl
theorem C0 {o : Nat} (ho : ok0 o) : cellO XSh o 0 := by rcases ho with rfl | rfl <;> exact ⟨by decide, rfl⟩
theorem F0_0 {o : Nat} (ho : ok0 o) : XSh.2.2.2 o 0 = (o + 1) + 2 := by rcases ho with rfl | rfl <;> rfl
theorem A0_0 {o : Nat} (ho : ok0 o) : arrO XSh (o + 1) 7 := by rcases ho with rfl | rfl <;> exact ⟨by decide, rfl, rfl⟩
theorem F0_1 {o : Nat} (ho : ok0 o) : XSh.2.2.2 o 1 = (o + 2) + 2 := by rcases ho with rfl | rfl <;> rfl
theorem A0_1 {o : Nat} (ho : ok0 o) : arrO XSh (o + 2) 7 := by rcases ho with rfl | rfl <;> exact ⟨by decide, rfl, rfl⟩
theorem F0_2 {o : Nat} (ho : ok0 o) : XSh.2.2.2 o 2 = (o + 3) + 2 := by rcases ho with rfl | rfl <;> rfl
theorem A0_2 {o : Nat} (ho : ok0 o) : arrO XSh (o + 3) 7 := by rcases ho with rfl | rfl <;> exact ⟨by decide, rfl, rfl⟩
theorem F0_3 {o : Nat} (ho : ok0 o) : XSh.2.2.2 o 3 = (o + 4) + 2 := by rcases ho with rfl | rfl <;> rfl
theorem A0_3 {o : Nat} (ho : ok0 o) : arrO XSh (o + 4) 7 := by rcases ho with rfl | rfl <;> exact ⟨by decide, rfl, rfl⟩
theorem F0_4 {o : Nat} (ho : ok0 o) : XSh.2.2.2 o 4 = (o + 5) + 2 := by rcases ho with rfl | rfl <;> rfl
theorem A0_4 {o : Nat} (ho : ok0 o) : arrO XSh (o + 5) 7 := by rcases ho with rfl | rfl <;> exact ⟨by decide, rfl, rfl⟩
theorem F0_5 {o : Nat} (ho : ok0 o) : XSh.2.2.2 o 5 = 0 := by rcases ho with rfl | rfl <;> rfl
theorem ok1_66 : ok1 66 := rfl
theorem C1 {o : Nat} (ho : ok1 o) : cellO XSh o 1 := by cases ho <;> exact ⟨by decide, rfl⟩
theorem F1_0 {o : Nat} (ho : ok1 o) : XSh.2.2.2 o 0 = 0 := by cases ho <;> rfl
theorem ok2_22 : ok2 22 := Or.inl rfl
theorem ok2_60 : ok2 60 := Or.inr rfl
theorem C2 {o : Nat} (ho : ok2 o) : cellO XSh o 2 := by rcases ho with rfl | rfl <;> exact ⟨by decide, rfl⟩
theorem F2_0 {o : Nat} (ho : ok2 o) : XSh.2.2.2 o 0 = (o + 1) + 2 := by rcases ho with rfl | rfl <;> rfl
theorem A2_0 {o : Nat} (ho : ok2 o) : arrO XSh (o + 1) 14 := by rcases ho with rfl | rfl <;> exact ⟨by decide, rfl, rfl⟩
theorem F2_1 {o : Nat} (ho : ok2 o) : XSh.2.2.2 o 1 = (o + 2) + 2 := by rcases ho with rfl | rfl <;> rfl
theorem A2_1 {o : Nat} (ho : ok2 o) : arrO XSh (o + 2) 14 := by rcases ho with rfl | rfl <;> exact ⟨by decide, rfl, rfl⟩
theorem F2_2 {o : Nat} (ho : ok2 o) : XSh.2.2.2 o 2 = (o + 3) + 2 := by rcases ho with rfl | rfl <;> rfl
theorem A2_2 {o : Nat} (ho : ok2 o) : arrO XSh (o + 3) 14 := by rcases ho with rfl | rfl <;> exact ⟨by decide, rfl, rfl⟩
theorem F2_3 {o : Nat} (ho : ok2 o) : XSh.2.2.2 o 3 = 0 := by rcases ho with rfl | rfl <;> rfl
theorem ok3_3 : ok3 3 := Or.inl rfl
theorem ok3_41 : ok3 41 := Or.inr rfl
theorem C3 {o : Nat} (ho : ok3 o) : cellO XSh o 3 := by rcases ho with rfl | rfl <;> exact ⟨by decide, rfl⟩
theorem F3_0 {o : Nat} (ho : ok3 o) : XSh.2.2.2 o 0 = (o + 1) + 2 := by rcases ho with rfl | rfl <;> rfl
theorem O3_0 {o : Nat} (ho : ok3 o) : ok5 (o + 1) := by rcases ho with rfl | rfl <;> simp [ok5]
theorem F3_1 {o : Nat} (ho : ok3 o) : XSh.2.2.2 o 1 = (o + 8) + 2 := by rcases ho with rfl | rfl <;> rfl
theorem A3_1 {o : Nat} (ho : ok3 o) : arrO XSh (o + 8) 8 := by rcases ho with rfl | rfl <;> exact ⟨by decide, rfl, rfl⟩
theorem F3_2 {o : Nat} (ho : ok3 o) : XSh.2.2.2 o 2 = 0 := by rcases ho with rfl | rfl <;> rfl
theorem F3_3 {o : Nat} (ho : ok3 o) : XSh.2.2.2 o 3 = (o + 9) + 2 := by rcases ho with rfl | rfl <;> rfl
theorem A3_3 {o : Nat} (ho : ok3 o) : arrO XSh (o + 9) 8 := by rcases ho with rfl | rfl <;> exact ⟨by decide, rfl, rfl⟩
theorem F3_4 {o : Nat} (ho : ok3 o) : XSh.2.2.2 o 4 = (o + 10) + 2 := by rcases ho with rfl | rfl <;> rfl
theorem A3_4 {o : Nat} (ho : ok3 o) : arrO XSh (o + 10) 8 := by rcases ho with rfl | rfl <;> exact ⟨by decide, rfl, rfl⟩
theorem F3_5 {o : Nat} (ho : ok3 o) : XSh.2.2.2 o 5 = (o + 11) + 2 := by rcases ho with rfl | rfl <;> rfl
theorem A3_5 {o : Nat} (ho : ok3 o) : arrO XSh (o + 11) 8 := by rcases ho with rfl | rfl <;> exact ⟨by decide, rfl, rfl⟩
theorem F3_6 {o : Nat} (ho : ok3 o) : XSh.2.2.2 o 6 = (o + 12) + 2 := by rcases ho with rfl | rfl <;> rfl
theorem A3_6 {o : Nat} (ho : ok3 o) : arrO XSh (o + 12) 8 := by rcases ho with rfl | rfl <;> exact ⟨by decide, rfl, rfl⟩
theorem F3_7 {o : Nat} (ho : ok3 o) : XSh.2.2.2 o 7 = 0 := by rcases ho with rfl | rfl <;> rfl
theorem F3_8 {o : Nat} (ho : ok3 o) : XSh.2.2.2 o 8 = (o + 13) + 2 := by rcases ho with rfl | rfl <;> rfl
theorem O3_8 {o : Nat} (ho : ok3 o) : ok0 (o + 13) := by rcases ho with rfl | rfl <;> simp [ok0]
theorem F3_9 {o : Nat} (ho : ok3 o) : XSh.2.2.2 o 9 = (o + 19) + 2 := by rcases ho with rfl | rfl <;> rfl
theorem O3_9 {o : Nat} (ho : ok3 o) : ok2 (o + 19) := by rcases ho with rfl | rfl <;> simp [ok2]
theorem F3_10 {o : Nat} (ho : ok3 o) : XSh.2.2.2 o 10 = (o + 23) + 2 := by rcases ho with rfl | rfl <;> rfl
theorem A3_10 {o : Nat} (ho : ok3 o) : arrO XSh (o + 23) 8 := by rcases ho with rfl | rfl <;> exact ⟨by decide, rfl, rfl⟩
theorem F3_11 {o : Nat} (ho : ok3 o) : XSh.2.2.2 o 11 = 0 := by rcases ho with rfl | rfl <;> rfl
theorem F3_12 {o : Nat} (ho : ok3 o) : XSh.2.2.2 o 12 = (o + 24) + 2 := by rcases ho with rfl | rfl <;> rfl
theorem A3_12 {o : Nat} (ho : ok3 o) : arrO XSh (o + 24) 8 := by rcases ho with rfl | rfl <;> exact ⟨by decide, rfl, rfl⟩
theorem ok4_28 : ok4 28 := Or.inl rfl
theorem ok4_38 : ok4 38 := Or.inr rfl
theorem C4 {o : Nat} (ho : ok4 o) : cellO XSh o 4 := by rcases ho with rfl | rfl <;> exact ⟨by decide, rfl⟩
theorem F4_0 {o : Nat} (ho : ok4 o) : XSh.2.2.2 o 0 = (o + 1) + 2 := by rcases ho with rfl | rfl <;> rfl
theorem A4_0 {o : Nat} (ho : ok4 o) : arrO XSh (o + 1) 6 := by rcases ho with rfl | rfl <;> exact ⟨by decide, rfl, rfl⟩
theorem F4_1 {o : Nat} (ho : ok4 o) : XSh.2.2.2 o 1 = (o + 2) + 2 := by rcases ho with rfl | rfl <;> rfl
theorem A4_1 {o : Nat} (ho : ok4 o) : arrO XSh (o + 2) 6 := by rcases ho with rfl | rfl <;> exact ⟨by decide, rfl, rfl⟩
theorem F4_2 {o : Nat} (ho : ok4 o) : XSh.2.2.2 o 2 = 0 := by rcases ho with rfl | rfl <;> rfl
theorem ok5_4 : ok5 4 := Or.inl rfl
theorem ok5_31 : ok5 31 := Or.inr (Or.inl rfl)
theorem ok5_42 : ok5 42 := Or.inr (Or.inr rfl)
theorem C5 {o : Nat} (ho : ok5 o) : cellO XSh o 5 := by rcases ho with rfl | rfl | rfl <;> exact ⟨by decide, rfl⟩
theorem F5_0 {o : Nat} (ho : ok5 o) : XSh.2.2.2 o 0 = (o + 1) + 2 := by rcases ho with rfl | rfl | rfl <;> rfl
theorem A5_0 {o : Nat} (ho : ok5 o) : arrO XSh (o + 1) 8 := by rcases ho with rfl | rfl | rfl <;> exact ⟨by decide, rfl, rfl⟩
theorem F5_1 {o : Nat} (ho : ok5 o) : XSh.2.2.2 o 1 = (o + 2) + 2 := by rcases ho with rfl | rfl | rfl <;> rfl
theorem A5_1 {o : Nat} (ho : ok5 o) : arrO XSh (o + 2) 8 := by rcases ho with rfl | rfl | rfl <;> exact ⟨by decide, rfl, rfl⟩
theorem F5_2 {o : Nat} (ho : ok5 o) : XSh.2.2.2 o 2 = (o + 3) + 2 := by rcases ho with rfl | rfl | rfl <;> rfl
theorem A5_2 {o : Nat} (ho : ok5 o) : arrO XSh (o + 3) 8 := by rcases ho with rfl | rfl | rfl <;> exact ⟨by decide, rfl, rfl⟩
theorem F5_3 {o : Nat} (ho : ok5 o) : XSh.2.2.2 o 3 = (o + 4) + 2 := by rcases ho with rfl | rfl | rfl <;> rfl
theorem A5_3 {o : Nat} (ho : ok5 o) : arrO XSh (o + 4) 8 := by rcases ho with rfl | rfl | rfl <;> exact ⟨by decide, rfl, rfl⟩
theorem F5_4 {o : Nat} (ho : ok5 o) : XSh.2.2.2 o 4 = (o + 5) + 2 := by rcases ho with rfl | rfl | rfl <;> rfl
theorem A5_4 {o : Nat} (ho : ok5 o) : arrO XSh (o + 5) 8 := by rcases ho with rfl | rfl | rfl <;> exact ⟨by decide, rfl, rfl⟩
theorem F5_5 {o : Nat} (ho : ok5 o) : XSh.2.2.2 o 5 = 0 := by rcases ho with rfl | rfl | rfl <;> rfl
theorem F5_6 {o : Nat} (ho : ok5 o) : XSh.2.2.2 o 6 = (o + 6) + 2 := by rcases ho with rfl | rfl | rfl <;> rfl
theorem A5_6 {o : Nat} (ho : ok5 o) : arrO XSh (o + 6) 4 := by rcases ho with rfl | rfl | rfl <;> exact ⟨by decide, rfl, rfl⟩
theorem F5_7 {o : Nat} (ho : ok5 o) : XSh.2.2.2 o 7 = 0 := by rcases ho with rfl | rfl | rfl <;> rfl
theorem ok6_1 : ok6 1 := rfl
theorem C6 {o : Nat} (ho : ok6 o) : cellO XSh o 6 := by cases ho <;> exact ⟨by decide, rfl⟩
theorem F6_0 {o : Nat} (ho : ok6 o) : XSh.2.2.2 o 0 = (o + 1) + 2 := by cases ho <;> rfl
theorem A6_0 {o : Nat} (ho : ok6 o) : arrO XSh (o + 1) 54 := by cases ho <;> exact ⟨by decide, rfl, rfl⟩
theorem F6_1 {o : Nat} (ho : ok6 o) : XSh.2.2.2 o 1 = 0 := by cases ho <;> rfl
theorem ok7_0 : ok7 0 := rfl
theorem C7 {o : Nat} (ho : ok7 o) : cellO XSh o 7 := by cases ho <;> exact ⟨by decide, rfl⟩
theorem F7_0 {o : Nat} (ho : ok7 o) : XSh.2.2.2 o 0 = (o + 1) + 2 := by cases ho <;> rfl
theorem O7_0 {o : Nat} (ho : ok7 o) : ok6 (o + 1) := by cases ho <;> simp [ok6]
theorem F7_1 {o : Nat} (ho : ok7 o) : XSh.2.2.2 o 1 = (o + 3) + 2 := by cases ho <;> rfl
theorem O7_1 {o : Nat} (ho : ok7 o) : ok3 (o + 3) := by cases ho <;> simp [ok3]
theorem F7_2 {o : Nat} (ho : ok7 o) : XSh.2.2.2 o 2 = (o + 28) + 2 := by cases ho <;> rfl
theorem O7_2 {o : Nat} (ho : ok7 o) : ok4 (o + 28) := by cases ho <;> simp [ok4]
theorem F7_3 {o : Nat} (ho : ok7 o) : XSh.2.2.2 o 3 = (o + 31) + 2 := by cases ho <;> rfl
theorem O7_3 {o : Nat} (ho : ok7 o) : ok5 (o + 31) := by cases ho <;> simp [ok5]
theorem F7_4 {o : Nat} (ho : ok7 o) : XSh.2.2.2 o 4 = (o + 38) + 2 := by cases ho <;> rfl
theorem O7_4 {o : Nat} (ho : ok7 o) : ok4 (o + 38) := by cases ho <;> simp [ok4]
theorem F7_5 {o : Nat} (ho : ok7 o) : XSh.2.2.2 o 5 = 0 := by cases ho <;> rfl
theorem F7_6 {o : Nat} (ho : ok7 o) : XSh.2.2.2 o 6 = 0 := by cases ho <;> rfl
theorem F7_7 {o : Nat} (ho : ok7 o) : XSh.2.2.2 o 7 = (o + 41) + 2 := by cases ho <;> rfl
theorem O7_7 {o : Nat} (ho : ok7 o) : ok3 (o + 41) := by cases ho <;> simp [ok3]
theorem F7_8 {o : Nat} (ho : ok7 o) : XSh.2.2.2 o 8 = (o + 66) + 2 := by cases ho <;> rfl
theorem O7_8 {o : Nat} (ho : ok7 o) : ok1 (o + 66) := by cases ho <;> simp [ok1]
theorem ok8_0 : ok8 0 := rfl
theorem C8 {o : Nat} (ho : ok8 o) : cellO MSh o 8 := by cases ho <;> exact ⟨by decide, rfl⟩
theorem F8_0 {o : Nat} (ho : ok8 o) : MSh.2.2.2 o 0 = (o + 1) + 2 := by cases ho <;> rfl
theorem A8_0 {o : Nat} (ho : ok8 o) : arrO MSh (o + 1) 54 := by cases ho <;> exact ⟨by decide, rfl, rfl⟩
theorem F8_1 {o : Nat} (ho : ok8 o) : MSh.2.2.2 o 1 = 0 := by cases ho <;> rfl
theorem F8_2 {o : Nat} (ho : ok8 o) : MSh.2.2.2 o 2 = 0 := by cases ho <;> rfl
theorem F8_3 {o : Nat} (ho : ok8 o) : MSh.2.2.2 o 3 = 0 := by cases ho <;> rfl
theorem F8_4 {o : Nat} (ho : ok8 o) : MSh.2.2.2 o 4 = 0 := by cases ho <;> rfl
theorem F8_5 {o : Nat} (ho : ok8 o) : MSh.2.2.2 o 5 = 0 := by cases ho <;> rfl
theorem F8_6 {o : Nat} (ho : ok8 o) : MSh.2.2.2 o 6 = 0 := by cases ho <;> rfl
theorem F8_7 {o : Nat} (ho : ok8 o) : MSh.2.2.2 o 7 = (o + 2) + 2 := by cases ho <;> rfl
theorem A8_7 {o : Nat} (ho : ok8 o) : arrO MSh (o + 2) 8 := by cases ho <;> exact ⟨by decide, rfl, rfl⟩
theorem F8_8 {o : Nat} (ho : ok8 o) : MSh.2.2.2 o 8 = (o + 3) + 2 := by cases ho <;> rfl
theorem A8_8 {o : Nat} (ho : ok8 o) : arrO MSh (o + 3) 32 := by cases ho <;> exact ⟨by decide, rfl, rfl⟩
theorem F8_9 {o : Nat} (ho : ok8 o) : MSh.2.2.2 o 9 = (o + 4) + 2 := by cases ho <;> rfl
theorem A8_9 {o : Nat} (ho : ok8 o) : arrO MSh (o + 4) 4 := by cases ho <;> exact ⟨by decide, rfl, rfl⟩
theorem F8_10 {o : Nat} (ho : ok8 o) : MSh.2.2.2 o 10 = 0 := by cases ho <;> rfl
theorem F8_11 {o : Nat} (ho : ok8 o) : MSh.2.2.2 o 11 = (o + 5) + 2 := by cases ho <;> rfl
theorem A8_11 {o : Nat} (ho : ok8 o) : arrO MSh (o + 5) 8 := by cases ho <;> exact ⟨by decide, rfl, rfl⟩
theorem F8_12 {o : Nat} (ho : ok8 o) : MSh.2.2.2 o 12 = 0 := by cases ho <;> rfl
theorem F8_13 {o : Nat} (ho : ok8 o) : MSh.2.2.2 o 13 = 0 := by cases ho <;> rfl
theorem F8_14 {o : Nat} (ho : ok8 o) : MSh.2.2.2 o 14 = 0 := by cases ho <;> rfl
theorem F8_15 {o : Nat} (ho : ok8 o) : MSh.2.2.2 o 15 = (o + 6) + 2 := by cases ho <;> rfl
theorem A8_15 {o : Nat} (ho : ok8 o) : arrO MSh (o + 6) 8 := by cases ho <;> exact ⟨by decide, rfl, rfl⟩
theorem F8_16 {o : Nat} (ho : ok8 o) : MSh.2.2.2 o 16 = 0 := by cases ho <;> rfl
theorem F8_17 {o : Nat} (ho : ok8 o) : MSh.2.2.2 o 17 = (o + 7) + 2 := by cases ho <;> rfl
theorem A8_17 {o : Nat} (ho : ok8 o) : arrO MSh (o + 7) 40 := by cases ho <;> exact ⟨by decide, rfl, rfl⟩
theorem F8_18 {o : Nat} (ho : ok8 o) : MSh.2.2.2 o 18 = 0 := by cases ho <;> rfl
theorem F8_19 {o : Nat} (ho : ok8 o) : MSh.2.2.2 o 19 = 0 := by cases ho <;> rfl
theorem F8_20 {o : Nat} (ho : ok8 o) : MSh.2.2.2 o 20 = (o + 8) + 2 := by cases ho <;> rfl
theorem A8_20 {o : Nat} (ho : ok8 o) : arrO MSh (o + 8) 8 := by cases ho <;> exact ⟨by decide, rfl, rfl⟩
theorem F8_21 {o : Nat} (ho : ok8 o) : MSh.2.2.2 o 21 = (o + 9) + 2 := by cases ho <;> rfl
theorem A8_21 {o : Nat} (ho : ok8 o) : arrO MSh (o + 9) 8 := by cases ho <;> exact ⟨by decide, rfl, rfl⟩
theorem F8_22 {o : Nat} (ho : ok8 o) : MSh.2.2.2 o 22 = (o + 10) + 2 := by cases ho <;> rfl
theorem A8_22 {o : Nat} (ho : ok8 o) : arrO MSh (o + 10) 16 := by cases ho <;> exact ⟨by decide, rfl, rfl⟩
theorem F8_23 {o : Nat} (ho : ok8 o) : MSh.2.2.2 o 23 = (o + 11) + 2 := by cases ho <;> rfl
theorem A8_23 {o : Nat} (ho : ok8 o) : arrO MSh (o + 11) 16 := by cases ho <;> exact ⟨by decide, rfl, rfl⟩
theorem F8_24 {o : Nat} (ho : ok8 o) : MSh.2.2.2 o 24 = (o + 12) + 2 := by cases ho <;> rfl
theorem A8_24 {o : Nat} (ho : ok8 o) : arrO MSh (o + 12) 8 := by cases ho <;> exact ⟨by decide, rfl, rfl⟩
theorem F8_25 {o : Nat} (ho : ok8 o) : MSh.2.2.2 o 25 = (o + 13) + 2 := by cases ho <;> rfl
theorem A8_25 {o : Nat} (ho : ok8 o) : arrO MSh (o + 13) 4 := by cases ho <;> exact ⟨by decide, rfl, rfl⟩
theorem F8_26 {o : Nat} (ho : ok8 o) : MSh.2.2.2 o 26 = 0 := by cases ho <;> rfl
theorem F8_27 {o : Nat} (ho : ok8 o) : MSh.2.2.2 o 27 = (o + 14) + 2 := by cases ho <;> rfl
theorem A8_27 {o : Nat} (ho : ok8 o) : arrO MSh (o + 14) 18 := by cases ho <;> exact ⟨by decide, rfl, rfl⟩
theorem F8_28 {o : Nat} (ho : ok8 o) : MSh.2.2.2 o 28 = 0 := by cases ho <;> rfl
theorem F8_29 {o : Nat} (ho : ok8 o) : MSh.2.2.2 o 29 = (o + 15) + 2 := by cases ho <;> rfl
theorem A8_29 {o : Nat} (ho : ok8 o) : arrO MSh (o + 15) 8 := by cases ho <;> exact ⟨by decide, rfl, rfl⟩
theorem F8_30 {o : Nat} (ho : ok8 o) : MSh.2.2.2 o 30 = (o + 16) + 2 := by cases ho <;> rfl
theorem A8_30 {o : Nat} (ho : ok8 o) : arrO MSh (o + 16) 32 := by cases ho <;> exact ⟨by decide, rfl, rfl⟩
theorem F8_31 {o : Nat} (ho : ok8 o) : MSh.2.2.2 o 31 = 0 := by cases ho <;> rfl
theorem F8_32 {o : Nat} (ho : ok8 o) : MSh.2.2.2 o 32 = 0 := by cases ho <;> rfl
theorem F8_33 {o : Nat} (ho : ok8 o) : MSh.2.2.2 o 33 = 0 := by cases ho <;> rfl
theorem F8_34 {o : Nat} (ho : ok8 o) : MSh.2.2.2 o 34 = 0 := by cases ho <;> rfl
theorem F8_35 {o : Nat} (ho : ok8 o) : MSh.2.2.2 o 35 = (o + 17) + 2 := by cases ho <;> rfl
theorem A8_35 {o : Nat} (ho : ok8 o) : arrO MSh (o + 17) 8 := by cases ho <;> exact ⟨by decide, rfl, rfl⟩
theorem F8_36 {o : Nat} (ho : ok8 o) : MSh.2.2.2 o 36 = (o + 18) + 2 := by cases ho <;> rfl
theorem A8_36 {o : Nat} (ho : ok8 o) : arrO MSh (o + 18) 32 := by cases ho <;> exact ⟨by decide, rfl, rfl⟩
theorem F8_37 {o : Nat} (ho : ok8 o) : MSh.2.2.2 o 37 = (o + 19) + 2 := by cases ho <;> rfl
theorem A8_37 {o : Nat} (ho : ok8 o) : arrO MSh (o + 19) 4 := by cases ho <;> exact ⟨by decide, rfl, rfl⟩
theorem F8_38 {o : Nat} (ho : ok8 o) : MSh.2.2.2 o 38 = (o + 20) + 2 := by cases ho <;> rfl
theorem A8_38 {o : Nat} (ho : ok8 o) : arrO MSh (o + 20) 18 := by cases ho <;> exact ⟨by decide, rfl, rfl⟩
theorem F8_39 {o : Nat} (ho : ok8 o) : MSh.2.2.2 o 39 = 1 := by cases ho <;> rfl
theorem Msole : ∀ k i, (k ≠ 0 ∨ i ≠ 39) → MSh.2.2.2 k i ≠ 1 := by
  intro k i h e
  have e' : (flM.getD k []).getD i 0 = 1 := e
  rcases Nat.lt_or_ge k 21 with hk | hk
  · rcases Nat.lt_or_ge i 40 with hi | hi
    · have key : ∀ k : Fin 21, ∀ i : Fin 40, (k.val ≠ 0 ∨ i.val ≠ 39) → (flM.getD k.val []).getD i.val 0 ≠ 1 := by decide
      exact key ⟨k, hk⟩ ⟨i, hi⟩ h e'
    · have hl : ∀ k : Fin 21, (flM.getD k.val []).length ≤ 40 := by decide
      have h2 : (flM.getD k [])[i]? = none := List.getElem?_eq_none (Nat.le_trans (hl ⟨k, hk⟩) hi)
      rw [List.getD_eq_getElem?_getD, h2] at e'
      cases e'
  · have h2 : flM[k]? = none := List.getElem?_eq_none (by simpa [flM] using hk)
    rw [List.getD_eq_getElem?_getD (l := flM), h2] at e'
    cases e'
