/-! The law's own code, from its loop on, passes the check. -/
theorem zall_split {α : Type} {p : α → Bool} (n : Nat) {L : List α} (h1 : (L.take n).all p = true) (h2 : (L.drop n).all p = true) : L.all p = true := by
  rw [← List.take_append_drop n L, List.all_append, h1, h2]
  rfl
theorem zok_law_0 : ((kL_law.2.2.2.2.drop 0).take 35).all (zokE "MarkedSweepsLaw" code) = true := by decide +kernel
theorem zok_law_35 : ((kL_law.2.2.2.2.drop 35).take 35).all (zokE "MarkedSweepsLaw" code) = true := by decide +kernel
theorem zok_law_70 : ((kL_law.2.2.2.2.drop 70).take 35).all (zokE "MarkedSweepsLaw" code) = true := by decide +kernel
theorem zok_law_105 : ((kL_law.2.2.2.2.drop 105).take 35).all (zokE "MarkedSweepsLaw" code) = true := by decide +kernel
theorem zok_law_140 : ((kL_law.2.2.2.2.drop 140).take 35).all (zokE "MarkedSweepsLaw" code) = true := by decide +kernel
theorem zok_law_175 : ((kL_law.2.2.2.2.drop 175).take 35).all (zokE "MarkedSweepsLaw" code) = true := by decide +kernel
theorem zok_law_210 : ((kL_law.2.2.2.2.drop 210).take 35).all (zokE "MarkedSweepsLaw" code) = true := by decide +kernel
theorem zok_law_245 : ((kL_law.2.2.2.2.drop 245).take 35).all (zokE "MarkedSweepsLaw" code) = true := by decide +kernel
theorem zok_law_280 : ((kL_law.2.2.2.2.drop 280).take 35).all (zokE "MarkedSweepsLaw" code) = true := by decide +kernel
theorem zok_law_315 : ((kL_law.2.2.2.2.drop 315).take 35).all (zokE "MarkedSweepsLaw" code) = true := by decide +kernel
theorem zok_law_350 : ((kL_law.2.2.2.2.drop 350).take 35).all (zokE "MarkedSweepsLaw" code) = true := by decide +kernel
theorem zok_law_385 : ((kL_law.2.2.2.2.drop 385).take 35).all (zokE "MarkedSweepsLaw" code) = true := by decide +kernel
theorem zok_law_420 : ((kL_law.2.2.2.2.drop 420).take 35).all (zokE "MarkedSweepsLaw" code) = true := by decide +kernel
theorem zok_law_455 : ((kL_law.2.2.2.2.drop 455).take 35).all (zokE "MarkedSweepsLaw" code) = true := by decide +kernel
theorem zok_law_490 : ((kL_law.2.2.2.2.drop 490).take 35).all (zokE "MarkedSweepsLaw" code) = true := by decide +kernel
theorem zok_law_525 : ((kL_law.2.2.2.2.drop 525).take 35).all (zokE "MarkedSweepsLaw" code) = true := by decide +kernel
theorem zok_law_560 : ((kL_law.2.2.2.2.drop 560).take 35).all (zokE "MarkedSweepsLaw" code) = true := by decide +kernel
theorem zok_law_595 : ((kL_law.2.2.2.2.drop 595).take 35).all (zokE "MarkedSweepsLaw" code) = true := by decide +kernel
theorem zok_law_630 : ((kL_law.2.2.2.2.drop 630).take 35).all (zokE "MarkedSweepsLaw" code) = true := by decide +kernel
theorem zok_law_665 : ((kL_law.2.2.2.2.drop 665).take 35).all (zokE "MarkedSweepsLaw" code) = true := by decide +kernel
theorem zok_law_700 : ((kL_law.2.2.2.2.drop 700).take 35).all (zokE "MarkedSweepsLaw" code) = true := by decide +kernel
theorem zok_law_735 : ((kL_law.2.2.2.2.drop 735).take 35).all (zokE "MarkedSweepsLaw" code) = true := by decide +kernel
theorem zok_law_770 : ((kL_law.2.2.2.2.drop 770).take 35).all (zokE "MarkedSweepsLaw" code) = true := by decide +kernel
theorem zok_law_805 : ((kL_law.2.2.2.2.drop 805).take 35).all (zokE "MarkedSweepsLaw" code) = true := by decide +kernel
theorem zok_law_840 : ((kL_law.2.2.2.2.drop 840).take 35).all (zokE "MarkedSweepsLaw" code) = true := by decide +kernel
theorem zok_law_875 : ((kL_law.2.2.2.2.drop 875).take 35).all (zokE "MarkedSweepsLaw" code) = true := by decide +kernel
theorem zok_law_910 : ((kL_law.2.2.2.2.drop 910).take 35).all (zokE "MarkedSweepsLaw" code) = true := by decide +kernel
theorem zok_law_945 : ((kL_law.2.2.2.2.drop 945).take 35).all (zokE "MarkedSweepsLaw" code) = true := by decide +kernel
theorem zok_law_980 : ((kL_law.2.2.2.2.drop 980).take 35).all (zokE "MarkedSweepsLaw" code) = true := by decide +kernel
theorem zok_law_1015 : ((kL_law.2.2.2.2.drop 1015).take 35).all (zokE "MarkedSweepsLaw" code) = true := by decide +kernel
theorem zok_law_1050 : ((kL_law.2.2.2.2.drop 1050).take 35).all (zokE "MarkedSweepsLaw" code) = true := by decide +kernel
theorem zok_law_1085 : ((kL_law.2.2.2.2.drop 1085).take 35).all (zokE "MarkedSweepsLaw" code) = true := by decide +kernel
theorem zok_law_1120 : ((kL_law.2.2.2.2.drop 1120).take 35).all (zokE "MarkedSweepsLaw" code) = true := by decide +kernel
theorem zok_law_1155 : ((kL_law.2.2.2.2.drop 1155).take 35).all (zokE "MarkedSweepsLaw" code) = true := by decide +kernel
theorem zok_lawd_1190 : (kL_law.2.2.2.2.drop 1190).all (zokE "MarkedSweepsLaw" code) = true := by decide +kernel
theorem zok_lawd_1155 : (kL_law.2.2.2.2.drop 1155).all (zokE "MarkedSweepsLaw" code) = true := zall_split 35 zok_law_1155 (by rw [List.drop_drop]; exact zok_lawd_1190)
theorem zok_lawd_1120 : (kL_law.2.2.2.2.drop 1120).all (zokE "MarkedSweepsLaw" code) = true := zall_split 35 zok_law_1120 (by rw [List.drop_drop]; exact zok_lawd_1155)
theorem zok_lawd_1085 : (kL_law.2.2.2.2.drop 1085).all (zokE "MarkedSweepsLaw" code) = true := zall_split 35 zok_law_1085 (by rw [List.drop_drop]; exact zok_lawd_1120)
theorem zok_lawd_1050 : (kL_law.2.2.2.2.drop 1050).all (zokE "MarkedSweepsLaw" code) = true := zall_split 35 zok_law_1050 (by rw [List.drop_drop]; exact zok_lawd_1085)
theorem zok_lawd_1015 : (kL_law.2.2.2.2.drop 1015).all (zokE "MarkedSweepsLaw" code) = true := zall_split 35 zok_law_1015 (by rw [List.drop_drop]; exact zok_lawd_1050)
theorem zok_lawd_980 : (kL_law.2.2.2.2.drop 980).all (zokE "MarkedSweepsLaw" code) = true := zall_split 35 zok_law_980 (by rw [List.drop_drop]; exact zok_lawd_1015)
theorem zok_lawd_945 : (kL_law.2.2.2.2.drop 945).all (zokE "MarkedSweepsLaw" code) = true := zall_split 35 zok_law_945 (by rw [List.drop_drop]; exact zok_lawd_980)
theorem zok_lawd_910 : (kL_law.2.2.2.2.drop 910).all (zokE "MarkedSweepsLaw" code) = true := zall_split 35 zok_law_910 (by rw [List.drop_drop]; exact zok_lawd_945)
theorem zok_lawd_875 : (kL_law.2.2.2.2.drop 875).all (zokE "MarkedSweepsLaw" code) = true := zall_split 35 zok_law_875 (by rw [List.drop_drop]; exact zok_lawd_910)
theorem zok_lawd_840 : (kL_law.2.2.2.2.drop 840).all (zokE "MarkedSweepsLaw" code) = true := zall_split 35 zok_law_840 (by rw [List.drop_drop]; exact zok_lawd_875)
theorem zok_lawd_805 : (kL_law.2.2.2.2.drop 805).all (zokE "MarkedSweepsLaw" code) = true := zall_split 35 zok_law_805 (by rw [List.drop_drop]; exact zok_lawd_840)
theorem zok_lawd_770 : (kL_law.2.2.2.2.drop 770).all (zokE "MarkedSweepsLaw" code) = true := zall_split 35 zok_law_770 (by rw [List.drop_drop]; exact zok_lawd_805)
theorem zok_lawd_735 : (kL_law.2.2.2.2.drop 735).all (zokE "MarkedSweepsLaw" code) = true := zall_split 35 zok_law_735 (by rw [List.drop_drop]; exact zok_lawd_770)
theorem zok_lawd_700 : (kL_law.2.2.2.2.drop 700).all (zokE "MarkedSweepsLaw" code) = true := zall_split 35 zok_law_700 (by rw [List.drop_drop]; exact zok_lawd_735)
theorem zok_lawd_665 : (kL_law.2.2.2.2.drop 665).all (zokE "MarkedSweepsLaw" code) = true := zall_split 35 zok_law_665 (by rw [List.drop_drop]; exact zok_lawd_700)
theorem zok_lawd_630 : (kL_law.2.2.2.2.drop 630).all (zokE "MarkedSweepsLaw" code) = true := zall_split 35 zok_law_630 (by rw [List.drop_drop]; exact zok_lawd_665)
theorem zok_lawd_595 : (kL_law.2.2.2.2.drop 595).all (zokE "MarkedSweepsLaw" code) = true := zall_split 35 zok_law_595 (by rw [List.drop_drop]; exact zok_lawd_630)
theorem zok_lawd_560 : (kL_law.2.2.2.2.drop 560).all (zokE "MarkedSweepsLaw" code) = true := zall_split 35 zok_law_560 (by rw [List.drop_drop]; exact zok_lawd_595)
theorem zok_lawd_525 : (kL_law.2.2.2.2.drop 525).all (zokE "MarkedSweepsLaw" code) = true := zall_split 35 zok_law_525 (by rw [List.drop_drop]; exact zok_lawd_560)
theorem zok_lawd_490 : (kL_law.2.2.2.2.drop 490).all (zokE "MarkedSweepsLaw" code) = true := zall_split 35 zok_law_490 (by rw [List.drop_drop]; exact zok_lawd_525)
theorem zok_lawd_455 : (kL_law.2.2.2.2.drop 455).all (zokE "MarkedSweepsLaw" code) = true := zall_split 35 zok_law_455 (by rw [List.drop_drop]; exact zok_lawd_490)
theorem zok_lawd_420 : (kL_law.2.2.2.2.drop 420).all (zokE "MarkedSweepsLaw" code) = true := zall_split 35 zok_law_420 (by rw [List.drop_drop]; exact zok_lawd_455)
theorem zok_lawd_385 : (kL_law.2.2.2.2.drop 385).all (zokE "MarkedSweepsLaw" code) = true := zall_split 35 zok_law_385 (by rw [List.drop_drop]; exact zok_lawd_420)
theorem zok_lawd_350 : (kL_law.2.2.2.2.drop 350).all (zokE "MarkedSweepsLaw" code) = true := zall_split 35 zok_law_350 (by rw [List.drop_drop]; exact zok_lawd_385)
theorem zok_lawd_315 : (kL_law.2.2.2.2.drop 315).all (zokE "MarkedSweepsLaw" code) = true := zall_split 35 zok_law_315 (by rw [List.drop_drop]; exact zok_lawd_350)
theorem zok_lawd_280 : (kL_law.2.2.2.2.drop 280).all (zokE "MarkedSweepsLaw" code) = true := zall_split 35 zok_law_280 (by rw [List.drop_drop]; exact zok_lawd_315)
theorem zok_lawd_245 : (kL_law.2.2.2.2.drop 245).all (zokE "MarkedSweepsLaw" code) = true := zall_split 35 zok_law_245 (by rw [List.drop_drop]; exact zok_lawd_280)
theorem zok_lawd_210 : (kL_law.2.2.2.2.drop 210).all (zokE "MarkedSweepsLaw" code) = true := zall_split 35 zok_law_210 (by rw [List.drop_drop]; exact zok_lawd_245)
theorem zok_lawd_175 : (kL_law.2.2.2.2.drop 175).all (zokE "MarkedSweepsLaw" code) = true := zall_split 35 zok_law_175 (by rw [List.drop_drop]; exact zok_lawd_210)
theorem zok_lawd_140 : (kL_law.2.2.2.2.drop 140).all (zokE "MarkedSweepsLaw" code) = true := zall_split 35 zok_law_140 (by rw [List.drop_drop]; exact zok_lawd_175)
theorem zok_lawd_105 : (kL_law.2.2.2.2.drop 105).all (zokE "MarkedSweepsLaw" code) = true := zall_split 35 zok_law_105 (by rw [List.drop_drop]; exact zok_lawd_140)
theorem zok_lawd_70 : (kL_law.2.2.2.2.drop 70).all (zokE "MarkedSweepsLaw" code) = true := zall_split 35 zok_law_70 (by rw [List.drop_drop]; exact zok_lawd_105)
theorem zok_lawd_35 : (kL_law.2.2.2.2.drop 35).all (zokE "MarkedSweepsLaw" code) = true := zall_split 35 zok_law_35 (by rw [List.drop_drop]; exact zok_lawd_70)
theorem zok_lawd_0 : (kL_law.2.2.2.2.drop 0).all (zokE "MarkedSweepsLaw" code) = true := zall_split 35 zok_law_0 (by rw [List.drop_drop]; exact zok_lawd_35)
theorem zok_law : kL_law.2.2.2.2.all (zokE "MarkedSweepsLaw" code) = true := zok_lawd_0
