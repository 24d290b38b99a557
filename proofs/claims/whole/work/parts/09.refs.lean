def rtab (tw dr sk tl ff : Nat) : List (List (Option Nat)) := [[some 1, none, some 48, some tw, some dr, some 52, some 54, some 56, none, some 57, some 61, some 66], [], [none, none, none, none, none, none, some 3, some 9, some 15, some 21, none, some 24], [none, some 4, some 5, some 6, some 7, some 8], [], [], [], [], [], [none, some 10, some 11, some 12, some 13, some 14], [], [], [], [], [], [none, some 16, some 17, some 18, some 19, some 20], [], [], [], [], [], [some 22, some 23], [], [], [], [none, none, none, none, none, none, some 26, some 32, some 38, some 44, none, some 47], [none, some 27, some 28, some 29, some 30, some 31], [], [], [], [], [], [none, some 33, some 34, some 35, some 36, some 37], [], [], [], [], [], [none, some 39, some 40, some 41, some 42, some 43], [], [], [], [], [], [some 45, some 46], [], [], [], [some 49, some 51, some tl], [some 1, some 50], [], [some 49, some ff], [some 53], [], [some 55], [], [], [some sk, none, none, none, none, none, none, some 58, some 59, some 60], [], [], [], [some 57, some 62, none, none, none, none, none, some 63, some 64, some 65], [], [], [], [], [none, none, none, none, some 67, some 68, some 69, some 70, none, none, some 71, some 72], [], [], [], [], [], [], [some 74, none, none, none, none, none, none, none, none, none, some 75, some 76, some 77, some 78, some 79, some 80, some 81, none, none, none, none, none, none, none, some 82, some 83, some 84, some 85, some 86, some 87, some 88, some 89, some 90, some 91, some 92, some 93, some 94, some 95, some 96, some 97, some 98, none, none, none, none, none, none, none, none, none, none, none, none, none, none, none, none, none, none, none, none, none, none, some 99, none, none, none, none, none, none, some 100, some 101, some 102, none, none, some 103, none, some 104, some 105, some 106, some 107, some 108, some 109, some 110, some 111, some 112, none, none, some 113, none, some 114, some 115], [], [], [], [], [], [], [], [], [], [], [], [], [], [], [], [], [], [], [], [], [], [], [], [], [], [], [], [], [], [], [], [], [], [], [], [], [], [], [], [], [], []]
def RT (tw dr sk tl ff : Nat) : HR := fun a j => ((rtab tw dr sk tl ff).getD a []).getD j none
abbrev isQ (q : Nat) : Prop := q = 2 ∨ q = 25
abbrev isF (f : Nat) : Prop := f = 21 ∨ f = 44
abbrev isT (t : Nat) : Prop := t = 3 ∨ t = 9 ∨ t = 15 ∨ t = 26 ∨ t = 32 ∨ t = 38
abbrev RG (tw dr sk tl _ff : Nat) : Prop := isQ tw ∧ isQ dr ∧ isQ sk ∧ isQ tl
def capT (t : Nat) : Nat := if t = 3 ∨ t = 26 then 8 else 4
theorem sh_0 : SH 0 = (15, 12) := rfl
theorem sh_1 : SH 1 = (2, 1600) := rfl
theorem sh_2 : SH 2 = (9, 12) := rfl
theorem sh_3 : SH 3 = (12, 6) := rfl
theorem sh_4 : SH 4 = (1, 8) := rfl
theorem sh_5 : SH 5 = (0, 8) := rfl
theorem sh_6 : SH 6 = (0, 8) := rfl
theorem sh_7 : SH 7 = (0, 8) := rfl
theorem sh_8 : SH 8 = (0, 8) := rfl
theorem sh_9 : SH 9 = (12, 6) := rfl
theorem sh_10 : SH 10 = (1, 4) := rfl
theorem sh_11 : SH 11 = (0, 4) := rfl
theorem sh_12 : SH 12 = (0, 4) := rfl
theorem sh_13 : SH 13 = (0, 4) := rfl
theorem sh_14 : SH 14 = (0, 4) := rfl
theorem sh_15 : SH 15 = (12, 6) := rfl
theorem sh_16 : SH 16 = (1, 4) := rfl
theorem sh_17 : SH 17 = (0, 4) := rfl
theorem sh_18 : SH 18 = (0, 4) := rfl
theorem sh_19 : SH 19 = (0, 4) := rfl
theorem sh_20 : SH 20 = (0, 4) := rfl
theorem sh_21 : SH 21 = (5, 5) := rfl
theorem sh_22 : SH 22 = (0, 270) := rfl
theorem sh_23 : SH 23 = (0, 30) := rfl
theorem sh_24 : SH 24 = (1, 32) := rfl
theorem sh_25 : SH 25 = (9, 12) := rfl
theorem sh_26 : SH 26 = (12, 6) := rfl
theorem sh_27 : SH 27 = (1, 8) := rfl
theorem sh_28 : SH 28 = (0, 8) := rfl
theorem sh_29 : SH 29 = (0, 8) := rfl
theorem sh_30 : SH 30 = (0, 8) := rfl
theorem sh_31 : SH 31 = (0, 8) := rfl
theorem sh_32 : SH 32 = (12, 6) := rfl
theorem sh_33 : SH 33 = (1, 4) := rfl
theorem sh_34 : SH 34 = (0, 4) := rfl
theorem sh_35 : SH 35 = (0, 4) := rfl
theorem sh_36 : SH 36 = (0, 4) := rfl
theorem sh_37 : SH 37 = (0, 4) := rfl
theorem sh_38 : SH 38 = (12, 6) := rfl
theorem sh_39 : SH 39 = (1, 4) := rfl
theorem sh_40 : SH 40 = (0, 4) := rfl
theorem sh_41 : SH 41 = (0, 4) := rfl
theorem sh_42 : SH 42 = (0, 4) := rfl
theorem sh_43 : SH 43 = (0, 4) := rfl
theorem sh_44 : SH 44 = (5, 5) := rfl
theorem sh_45 : SH 45 = (0, 270) := rfl
theorem sh_46 : SH 46 = (0, 30) := rfl
theorem sh_47 : SH 47 = (1, 32) := rfl
theorem sh_48 : SH 48 = (10, 10) := rfl
theorem sh_49 : SH 49 = (13, 8) := rfl
theorem sh_50 : SH 50 = (1, 19) := rfl
theorem sh_51 : SH 51 = (6, 2) := rfl
theorem sh_52 : SH 52 = (8, 6) := rfl
theorem sh_53 : SH 53 = (0, 4) := rfl
theorem sh_54 : SH 54 = (4, 3) := rfl
theorem sh_55 : SH 55 = (1, 41) := rfl
theorem sh_56 : SH 56 = (1, 3) := rfl
theorem sh_57 : SH 57 = (11, 10) := rfl
theorem sh_58 : SH 58 = (1, 392) := rfl
theorem sh_59 : SH 59 = (0, 49) := rfl
theorem sh_60 : SH 60 = (0, 10) := rfl
theorem sh_61 : SH 61 = (14, 10) := rfl
theorem sh_62 : SH 62 = (0, 48) := rfl
theorem sh_63 : SH 63 = (1, 49) := rfl
theorem sh_64 : SH 64 = (1, 64) := rfl
theorem sh_65 : SH 65 = (1, 64) := rfl
theorem sh_66 : SH 66 = (7, 12) := rfl
theorem sh_67 : SH 67 = (0, 30) := rfl
theorem sh_68 : SH 68 = (0, 30) := rfl
theorem sh_69 : SH 69 = (0, 30) := rfl
theorem sh_70 : SH 70 = (0, 30) := rfl
theorem sh_71 : SH 71 = (1, 4) := rfl
theorem sh_72 : SH 72 = (0, 4) := rfl
theorem sh_73 : SH 73 = (16, 92) := rfl
theorem sh_74 : SH 74 = (0, 1600) := rfl
theorem sh_75 : SH 75 = (1, 16) := rfl
theorem sh_76 : SH 76 = (0, 320) := rfl
theorem sh_77 : SH 77 = (0, 320) := rfl
theorem sh_78 : SH 78 = (0, 320) := rfl
theorem sh_79 : SH 79 = (0, 320) := rfl
theorem sh_80 : SH 80 = (0, 160) := rfl
theorem sh_81 : SH 81 = (0, 64) := rfl
theorem sh_82 : SH 82 = (0, 3) := rfl
theorem sh_83 : SH 83 = (0, 8) := rfl
theorem sh_84 : SH 84 = (0, 8) := rfl
theorem sh_85 : SH 85 = (0, 8) := rfl
theorem sh_86 : SH 86 = (0, 8) := rfl
theorem sh_87 : SH 87 = (0, 4) := rfl
theorem sh_88 : SH 88 = (0, 4) := rfl
theorem sh_89 : SH 89 = (0, 4) := rfl
theorem sh_90 : SH 90 = (0, 4) := rfl
theorem sh_91 : SH 91 = (0, 8) := rfl
theorem sh_92 : SH 92 = (0, 8) := rfl
theorem sh_93 : SH 93 = (0, 8) := rfl
theorem sh_94 : SH 94 = (0, 8) := rfl
theorem sh_95 : SH 95 = (0, 4) := rfl
theorem sh_96 : SH 96 = (0, 4) := rfl
theorem sh_97 : SH 97 = (0, 4) := rfl
theorem sh_98 : SH 98 = (0, 4) := rfl
theorem sh_99 : SH 99 = (0, 10) := rfl
theorem sh_100 : SH 100 = (1, 8) := rfl
theorem sh_101 : SH 101 = (1, 3136) := rfl
theorem sh_102 : SH 102 = (0, 400) := rfl
theorem sh_103 : SH 103 = (0, 48) := rfl
theorem sh_104 : SH 104 = (1, 49) := rfl
theorem sh_105 : SH 105 = (0, 64) := rfl
theorem sh_106 : SH 106 = (1, 64) := rfl
theorem sh_107 : SH 107 = (1, 64) := rfl
theorem sh_108 : SH 108 = (0, 30) := rfl
theorem sh_109 : SH 109 = (0, 30) := rfl
theorem sh_110 : SH 110 = (0, 30) := rfl
theorem sh_111 : SH 111 = (0, 30) := rfl
theorem sh_112 : SH 112 = (3, 30) := rfl
theorem sh_113 : SH 113 = (1, 5) := rfl
theorem sh_114 : SH 114 = (3, 3) := rfl
theorem sh_115 : SH 115 = (0, 30) := rfl
section RF
variable {tw dr sk tl ff : Nat}
theorem rt_0_0 : RT tw dr sk tl ff 0 0 = some 1 := rfl
theorem rt_0_2 : RT tw dr sk tl ff 0 2 = some 48 := rfl
theorem rt_0_3 : RT tw dr sk tl ff 0 3 = some tw := rfl
theorem rt_0_4 : RT tw dr sk tl ff 0 4 = some dr := rfl
theorem rt_0_5 : RT tw dr sk tl ff 0 5 = some 52 := rfl
theorem rt_0_6 : RT tw dr sk tl ff 0 6 = some 54 := rfl
theorem rt_0_7 : RT tw dr sk tl ff 0 7 = some 56 := rfl
theorem rt_0_9 : RT tw dr sk tl ff 0 9 = some 57 := rfl
theorem rt_0_10 : RT tw dr sk tl ff 0 10 = some 61 := rfl
theorem rt_0_11 : RT tw dr sk tl ff 0 11 = some 66 := rfl
theorem rt_2_6 : RT tw dr sk tl ff 2 6 = some 3 := rfl
theorem rt_2_7 : RT tw dr sk tl ff 2 7 = some 9 := rfl
theorem rt_2_8 : RT tw dr sk tl ff 2 8 = some 15 := rfl
theorem rt_2_9 : RT tw dr sk tl ff 2 9 = some 21 := rfl
theorem rt_2_11 : RT tw dr sk tl ff 2 11 = some 24 := rfl
theorem rt_3_1 : RT tw dr sk tl ff 3 1 = some 4 := rfl
theorem rt_3_2 : RT tw dr sk tl ff 3 2 = some 5 := rfl
theorem rt_3_3 : RT tw dr sk tl ff 3 3 = some 6 := rfl
theorem rt_3_4 : RT tw dr sk tl ff 3 4 = some 7 := rfl
theorem rt_3_5 : RT tw dr sk tl ff 3 5 = some 8 := rfl
theorem rt_9_1 : RT tw dr sk tl ff 9 1 = some 10 := rfl
theorem rt_9_2 : RT tw dr sk tl ff 9 2 = some 11 := rfl
theorem rt_9_3 : RT tw dr sk tl ff 9 3 = some 12 := rfl
theorem rt_9_4 : RT tw dr sk tl ff 9 4 = some 13 := rfl
theorem rt_9_5 : RT tw dr sk tl ff 9 5 = some 14 := rfl
theorem rt_15_1 : RT tw dr sk tl ff 15 1 = some 16 := rfl
theorem rt_15_2 : RT tw dr sk tl ff 15 2 = some 17 := rfl
theorem rt_15_3 : RT tw dr sk tl ff 15 3 = some 18 := rfl
theorem rt_15_4 : RT tw dr sk tl ff 15 4 = some 19 := rfl
theorem rt_15_5 : RT tw dr sk tl ff 15 5 = some 20 := rfl
theorem rt_21_0 : RT tw dr sk tl ff 21 0 = some 22 := rfl
theorem rt_21_1 : RT tw dr sk tl ff 21 1 = some 23 := rfl
theorem rt_25_6 : RT tw dr sk tl ff 25 6 = some 26 := rfl
theorem rt_25_7 : RT tw dr sk tl ff 25 7 = some 32 := rfl
theorem rt_25_8 : RT tw dr sk tl ff 25 8 = some 38 := rfl
theorem rt_25_9 : RT tw dr sk tl ff 25 9 = some 44 := rfl
theorem rt_25_11 : RT tw dr sk tl ff 25 11 = some 47 := rfl
theorem rt_26_1 : RT tw dr sk tl ff 26 1 = some 27 := rfl
theorem rt_26_2 : RT tw dr sk tl ff 26 2 = some 28 := rfl
theorem rt_26_3 : RT tw dr sk tl ff 26 3 = some 29 := rfl
theorem rt_26_4 : RT tw dr sk tl ff 26 4 = some 30 := rfl
theorem rt_26_5 : RT tw dr sk tl ff 26 5 = some 31 := rfl
theorem rt_32_1 : RT tw dr sk tl ff 32 1 = some 33 := rfl
theorem rt_32_2 : RT tw dr sk tl ff 32 2 = some 34 := rfl
theorem rt_32_3 : RT tw dr sk tl ff 32 3 = some 35 := rfl
theorem rt_32_4 : RT tw dr sk tl ff 32 4 = some 36 := rfl
theorem rt_32_5 : RT tw dr sk tl ff 32 5 = some 37 := rfl
theorem rt_38_1 : RT tw dr sk tl ff 38 1 = some 39 := rfl
theorem rt_38_2 : RT tw dr sk tl ff 38 2 = some 40 := rfl
theorem rt_38_3 : RT tw dr sk tl ff 38 3 = some 41 := rfl
theorem rt_38_4 : RT tw dr sk tl ff 38 4 = some 42 := rfl
theorem rt_38_5 : RT tw dr sk tl ff 38 5 = some 43 := rfl
theorem rt_44_0 : RT tw dr sk tl ff 44 0 = some 45 := rfl
theorem rt_44_1 : RT tw dr sk tl ff 44 1 = some 46 := rfl
theorem rt_48_0 : RT tw dr sk tl ff 48 0 = some 49 := rfl
theorem rt_48_1 : RT tw dr sk tl ff 48 1 = some 51 := rfl
theorem rt_48_2 : RT tw dr sk tl ff 48 2 = some tl := rfl
theorem rt_49_0 : RT tw dr sk tl ff 49 0 = some 1 := rfl
theorem rt_49_1 : RT tw dr sk tl ff 49 1 = some 50 := rfl
theorem rt_51_0 : RT tw dr sk tl ff 51 0 = some 49 := rfl
theorem rt_51_1 : RT tw dr sk tl ff 51 1 = some ff := rfl
theorem rt_52_0 : RT tw dr sk tl ff 52 0 = some 53 := rfl
theorem rt_54_0 : RT tw dr sk tl ff 54 0 = some 55 := rfl
theorem rt_57_0 : RT tw dr sk tl ff 57 0 = some sk := rfl
theorem rt_57_7 : RT tw dr sk tl ff 57 7 = some 58 := rfl
theorem rt_57_8 : RT tw dr sk tl ff 57 8 = some 59 := rfl
theorem rt_57_9 : RT tw dr sk tl ff 57 9 = some 60 := rfl
theorem rt_61_0 : RT tw dr sk tl ff 61 0 = some 57 := rfl
theorem rt_61_1 : RT tw dr sk tl ff 61 1 = some 62 := rfl
theorem rt_61_7 : RT tw dr sk tl ff 61 7 = some 63 := rfl
theorem rt_61_8 : RT tw dr sk tl ff 61 8 = some 64 := rfl
theorem rt_61_9 : RT tw dr sk tl ff 61 9 = some 65 := rfl
theorem rt_66_4 : RT tw dr sk tl ff 66 4 = some 67 := rfl
theorem rt_66_5 : RT tw dr sk tl ff 66 5 = some 68 := rfl
theorem rt_66_6 : RT tw dr sk tl ff 66 6 = some 69 := rfl
theorem rt_66_7 : RT tw dr sk tl ff 66 7 = some 70 := rfl
theorem rt_66_10 : RT tw dr sk tl ff 66 10 = some 71 := rfl
theorem rt_66_11 : RT tw dr sk tl ff 66 11 = some 72 := rfl
theorem rt_73_0 : RT tw dr sk tl ff 73 0 = some 74 := rfl
theorem rt_73_10 : RT tw dr sk tl ff 73 10 = some 75 := rfl
theorem rt_73_11 : RT tw dr sk tl ff 73 11 = some 76 := rfl
theorem rt_73_12 : RT tw dr sk tl ff 73 12 = some 77 := rfl
theorem rt_73_13 : RT tw dr sk tl ff 73 13 = some 78 := rfl
theorem rt_73_14 : RT tw dr sk tl ff 73 14 = some 79 := rfl
theorem rt_73_15 : RT tw dr sk tl ff 73 15 = some 80 := rfl
theorem rt_73_16 : RT tw dr sk tl ff 73 16 = some 81 := rfl
theorem rt_73_24 : RT tw dr sk tl ff 73 24 = some 82 := rfl
theorem rt_73_25 : RT tw dr sk tl ff 73 25 = some 83 := rfl
theorem rt_73_26 : RT tw dr sk tl ff 73 26 = some 84 := rfl
theorem rt_73_27 : RT tw dr sk tl ff 73 27 = some 85 := rfl
theorem rt_73_28 : RT tw dr sk tl ff 73 28 = some 86 := rfl
theorem rt_73_29 : RT tw dr sk tl ff 73 29 = some 87 := rfl
theorem rt_73_30 : RT tw dr sk tl ff 73 30 = some 88 := rfl
theorem rt_73_31 : RT tw dr sk tl ff 73 31 = some 89 := rfl
theorem rt_73_32 : RT tw dr sk tl ff 73 32 = some 90 := rfl
theorem rt_73_33 : RT tw dr sk tl ff 73 33 = some 91 := rfl
theorem rt_73_34 : RT tw dr sk tl ff 73 34 = some 92 := rfl
theorem rt_73_35 : RT tw dr sk tl ff 73 35 = some 93 := rfl
theorem rt_73_36 : RT tw dr sk tl ff 73 36 = some 94 := rfl
theorem rt_73_37 : RT tw dr sk tl ff 73 37 = some 95 := rfl
theorem rt_73_38 : RT tw dr sk tl ff 73 38 = some 96 := rfl
theorem rt_73_39 : RT tw dr sk tl ff 73 39 = some 97 := rfl
theorem rt_73_40 : RT tw dr sk tl ff 73 40 = some 98 := rfl
theorem rt_73_63 : RT tw dr sk tl ff 73 63 = some 99 := rfl
theorem rt_73_70 : RT tw dr sk tl ff 73 70 = some 100 := rfl
theorem rt_73_71 : RT tw dr sk tl ff 73 71 = some 101 := rfl
theorem rt_73_72 : RT tw dr sk tl ff 73 72 = some 102 := rfl
theorem rt_73_75 : RT tw dr sk tl ff 73 75 = some 103 := rfl
theorem rt_73_77 : RT tw dr sk tl ff 73 77 = some 104 := rfl
theorem rt_73_78 : RT tw dr sk tl ff 73 78 = some 105 := rfl
theorem rt_73_79 : RT tw dr sk tl ff 73 79 = some 106 := rfl
theorem rt_73_80 : RT tw dr sk tl ff 73 80 = some 107 := rfl
theorem rt_73_81 : RT tw dr sk tl ff 73 81 = some 108 := rfl
theorem rt_73_82 : RT tw dr sk tl ff 73 82 = some 109 := rfl
theorem rt_73_83 : RT tw dr sk tl ff 73 83 = some 110 := rfl
theorem rt_73_84 : RT tw dr sk tl ff 73 84 = some 111 := rfl
theorem rt_73_85 : RT tw dr sk tl ff 73 85 = some 112 := rfl
theorem rt_73_88 : RT tw dr sk tl ff 73 88 = some 113 := rfl
theorem rt_73_90 : RT tw dr sk tl ff 73 90 = some 114 := rfl
theorem rt_73_91 : RT tw dr sk tl ff 73 91 = some 115 := rfl
theorem rtQ_6 {q : Nat} (hq : isQ q) : RT tw dr sk tl ff q 6 = some (q + 1) := by rcases hq with rfl | rfl <;> rfl
theorem rtQ_7 {q : Nat} (hq : isQ q) : RT tw dr sk tl ff q 7 = some (q + 7) := by rcases hq with rfl | rfl <;> rfl
theorem rtQ_8 {q : Nat} (hq : isQ q) : RT tw dr sk tl ff q 8 = some (q + 13) := by rcases hq with rfl | rfl <;> rfl
theorem rtQ_9 {q : Nat} (hq : isQ q) : RT tw dr sk tl ff q 9 = some (q + 19) := by rcases hq with rfl | rfl <;> rfl
theorem rtQ_11 {q : Nat} (hq : isQ q) : RT tw dr sk tl ff q 11 = some (q + 22) := by rcases hq with rfl | rfl <;> rfl
theorem rtT_1 {t : Nat} (ht : isT t) : RT tw dr sk tl ff t 1 = some (t + 1) := by rcases ht with rfl | rfl | rfl | rfl | rfl | rfl <;> rfl
theorem rtT_2 {t : Nat} (ht : isT t) : RT tw dr sk tl ff t 2 = some (t + 2) := by rcases ht with rfl | rfl | rfl | rfl | rfl | rfl <;> rfl
theorem rtT_3 {t : Nat} (ht : isT t) : RT tw dr sk tl ff t 3 = some (t + 3) := by rcases ht with rfl | rfl | rfl | rfl | rfl | rfl <;> rfl
theorem rtT_4 {t : Nat} (ht : isT t) : RT tw dr sk tl ff t 4 = some (t + 4) := by rcases ht with rfl | rfl | rfl | rfl | rfl | rfl <;> rfl
theorem rtT_5 {t : Nat} (ht : isT t) : RT tw dr sk tl ff t 5 = some (t + 5) := by rcases ht with rfl | rfl | rfl | rfl | rfl | rfl <;> rfl
theorem rtF_0 {q : Nat} (hq : isF q) : RT tw dr sk tl ff q 0 = some (q + 1) := by rcases hq with rfl | rfl <;> rfl
theorem rtF_1 {q : Nat} (hq : isF q) : RT tw dr sk tl ff q 1 = some (q + 2) := by rcases hq with rfl | rfl <;> rfl
end RF
theorem shQ {q : Nat} (hq : isQ q) : SH q = (9, 12) := by rcases hq with rfl | rfl <;> rfl
theorem shF {q : Nat} (hq : isF q) : SH q = (5, 5) := by rcases hq with rfl | rfl <;> rfl
theorem shT {t : Nat} (ht : isT t) : SH t = (12, 6) := by rcases ht with rfl | rfl | rfl | rfl | rfl | rfl <;> rfl
theorem shQ22 {q : Nat} (hq : isQ q) : SH (q + 22) = (1, 32) := by rcases hq with rfl | rfl <;> rfl
theorem shF1 {q : Nat} (hq : isF q) : SH (q + 1) = (0, 270) := by rcases hq with rfl | rfl <;> rfl
theorem shF2 {q : Nat} (hq : isF q) : SH (q + 2) = (0, 30) := by rcases hq with rfl | rfl <;> rfl
theorem shT1 {t : Nat} (ht : isT t) : SH (t + 1) = (1, capT t) := by rcases ht with rfl | rfl | rfl | rfl | rfl | rfl <;> rfl
theorem shT2 {t : Nat} (ht : isT t) : SH (t + 2) = (0, capT t) := by rcases ht with rfl | rfl | rfl | rfl | rfl | rfl <;> rfl
theorem shT3 {t : Nat} (ht : isT t) : SH (t + 3) = (0, capT t) := by rcases ht with rfl | rfl | rfl | rfl | rfl | rfl <;> rfl
theorem shT4 {t : Nat} (ht : isT t) : SH (t + 4) = (0, capT t) := by rcases ht with rfl | rfl | rfl | rfl | rfl | rfl <;> rfl
theorem shT5 {t : Nat} (ht : isT t) : SH (t + 5) = (0, capT t) := by rcases ht with rfl | rfl | rfl | rfl | rfl | rfl <;> rfl
theorem qT_6 {q : Nat} (hq : isQ q) : isT (q + 1) := by omega
theorem qT_7 {q : Nat} (hq : isQ q) : isT (q + 7) := by omega
theorem qT_8 {q : Nat} (hq : isQ q) : isT (q + 13) := by omega
theorem qF_9 {q : Nat} (hq : isQ q) : isF (q + 19) := by omega
