/-! The data: all ways, in batches (written by wip/whole/math/mkworlds.py), and the checks. -/
def wB3_0 : Nat := 0x10100000
theorem wC3_0 : (wChk 3 800 (wDec 1 wB3_0) 1 && Nat.beq (wLen (wDec 1 wB3_0)) 1 && wOkE 3 0 (wDec 1 wB3_0)) = true := by decide +kernel
def wBat3 : List (Nat × Nat × Nat) := [(1, 1, wB3_0)]
theorem wAll3 : Nat.beq (wOkW 3 0 &&& ((2 ^ 2 ^ 0 - 1) ^^^ wUni wBat3)) 0 = true := by decide +kernel
theorem wGood3 : wGoodB 3 800 0 wBat3 := ⟨wC3_0, trivial⟩
def wB4_0 : Nat := 0x200000008000020200000
theorem wC4_0 : (wChk 4 800 (wDec 1 wB4_0) 4 && Nat.beq (wLen (wDec 1 wB4_0)) 4 && wOkE 4 1 (wDec 1 wB4_0)) = true := by decide +kernel
def wBat4 : List (Nat × Nat × Nat) := [(1, 4, wB4_0)]
theorem wAll4 : Nat.beq (wOkW 4 0 &&& ((2 ^ 2 ^ 0 - 1) ^^^ wUni wBat4)) 0 = true := by decide +kernel
theorem wGood4 : wGoodB 4 800 1 wBat4 := ⟨wC4_0, trivial⟩
def wB5_0 : Nat := 0xe000c0008000000e00180020000040400001000e00180020000000e000c0008000040400000
theorem wC5_0 : (wChk 5 800 (wDec 2 wB5_0) 32 && Nat.beq (wLen (wDec 2 wB5_0)) 32 && wOkE 5 3 (wDec 2 wB5_0)) = true := by decide +kernel
def wBat5 : List (Nat × Nat × Nat) := [(2, 32, wB5_0)]
theorem wAll5 : Nat.beq (wOkW 5 1 &&& ((2 ^ 2 ^ 1 - 1) ^^^ wUni wBat5)) 0 = true := by decide +kernel
theorem wGood5 : wGoodB 5 800 3 wBat5 := ⟨wC5_0, trivial⟩
def wB6_0 : Nat := 0x7e007c007800b000e000c0008000007e00f801e0038006800c0010000008080000f007e00ec015800b00060004000003f007c00f001a0014000800001c1c0001c01f803b005600e4014802100020080000003f003e00f800f0016000c00500020000090900003007e00ec01c803800600080000003f003e003c0038006000800001c1c0000401f801f001e001c0030004000000fc01d8039007000c0010000007070000e007e007c01f001e002c001800a0004000000fc01d802b007200a401080010040000024240003001f803e007800d000a0004000000fc01d802b0016000c0008000070700008007e00f801e0038006800c00100000007e007c007800b000e000c0008000080800000
theorem wC6_0 : (wChk 6 800 (wDec 8 wB6_0) 486 && Nat.beq (wLen (wDec 8 wB6_0)) 486 && wOkE 6 6 (wDec 8 wB6_0)) = true := by decide +kernel
def wBat6 : List (Nat × Nat × Nat) := [(8, 486, wB6_0)]
theorem wAll6 : Nat.beq (wOkW 6 4 &&& ((2 ^ 2 ^ 4 - 1) ^^^ wUni wBat6)) 0 = true := by decide +kernel
theorem wGood6 : wGoodB 6 800 6 wBat6 := ⟨wC6_0, trivial⟩
