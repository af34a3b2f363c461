def bc1 (x : Int32) : Int32 := x - (((Int32.toUInt32 x >>> (Int32.toUInt32 (1 : Int32) &&& Int32.toUInt32 (31 : Int32))).toInt32) &&& (1431655765 : Int32))
def bc2 (x : Int32) : Int32 := (x &&& (858993459 : Int32)) + (((Int32.toUInt32 x >>> (Int32.toUInt32 (2 : Int32) &&& Int32.toUInt32 (31 : Int32))).toInt32) &&& (858993459 : Int32))
def bc3 (x : Int32) : Int32 := (x + ((Int32.toUInt32 x >>> (Int32.toUInt32 (4 : Int32) &&& Int32.toUInt32 (31 : Int32))).toInt32)) &&& (252645135 : Int32)
def bc4 (x : Int32) : Int32 := x + ((Int32.toUInt32 x >>> (Int32.toUInt32 (8 : Int32) &&& Int32.toUInt32 (31 : Int32))).toInt32)
def bc5 (x : Int32) : Int32 := (x + ((Int32.toUInt32 x >>> (Int32.toUInt32 (16 : Int32) &&& Int32.toUInt32 (31 : Int32))).toInt32)) &&& (63 : Int32)
def bcF (x : Int32) : Int32 := bc5 (bc4 (bc3 (bc2 (bc1 x))))
theorem bc_t0 : ∀ b, b < 1024 → bcF (nI (0 + b)) = nI (pop (0 + b) 15) := by decide +kernel
theorem bc_t1 : ∀ b, b < 1024 → bcF (nI (1024 + b)) = nI (pop (1024 + b) 15) := by decide +kernel
theorem bc_t2 : ∀ b, b < 1024 → bcF (nI (2048 + b)) = nI (pop (2048 + b) 15) := by decide +kernel
theorem bc_t3 : ∀ b, b < 1024 → bcF (nI (3072 + b)) = nI (pop (3072 + b) 15) := by decide +kernel
theorem bc_t4 : ∀ b, b < 1024 → bcF (nI (4096 + b)) = nI (pop (4096 + b) 15) := by decide +kernel
theorem bc_t5 : ∀ b, b < 1024 → bcF (nI (5120 + b)) = nI (pop (5120 + b) 15) := by decide +kernel
theorem bc_t6 : ∀ b, b < 1024 → bcF (nI (6144 + b)) = nI (pop (6144 + b) 15) := by decide +kernel
theorem bc_t7 : ∀ b, b < 1024 → bcF (nI (7168 + b)) = nI (pop (7168 + b) 15) := by decide +kernel
theorem bc_t8 : ∀ b, b < 1024 → bcF (nI (8192 + b)) = nI (pop (8192 + b) 15) := by decide +kernel
theorem bc_t9 : ∀ b, b < 1024 → bcF (nI (9216 + b)) = nI (pop (9216 + b) 15) := by decide +kernel
theorem bc_t10 : ∀ b, b < 1024 → bcF (nI (10240 + b)) = nI (pop (10240 + b) 15) := by decide +kernel
theorem bc_t11 : ∀ b, b < 1024 → bcF (nI (11264 + b)) = nI (pop (11264 + b) 15) := by decide +kernel
theorem bc_t12 : ∀ b, b < 1024 → bcF (nI (12288 + b)) = nI (pop (12288 + b) 15) := by decide +kernel
theorem bc_t13 : ∀ b, b < 1024 → bcF (nI (13312 + b)) = nI (pop (13312 + b) 15) := by decide +kernel
theorem bc_t14 : ∀ b, b < 1024 → bcF (nI (14336 + b)) = nI (pop (14336 + b) 15) := by decide +kernel
theorem bc_t15 : ∀ b, b < 1024 → bcF (nI (15360 + b)) = nI (pop (15360 + b) 15) := by decide +kernel
theorem bc_t16 : ∀ b, b < 1024 → bcF (nI (16384 + b)) = nI (pop (16384 + b) 15) := by decide +kernel
theorem bc_t17 : ∀ b, b < 1024 → bcF (nI (17408 + b)) = nI (pop (17408 + b) 15) := by decide +kernel
theorem bc_t18 : ∀ b, b < 1024 → bcF (nI (18432 + b)) = nI (pop (18432 + b) 15) := by decide +kernel
theorem bc_t19 : ∀ b, b < 1024 → bcF (nI (19456 + b)) = nI (pop (19456 + b) 15) := by decide +kernel
theorem bc_t20 : ∀ b, b < 1024 → bcF (nI (20480 + b)) = nI (pop (20480 + b) 15) := by decide +kernel
theorem bc_t21 : ∀ b, b < 1024 → bcF (nI (21504 + b)) = nI (pop (21504 + b) 15) := by decide +kernel
theorem bc_t22 : ∀ b, b < 1024 → bcF (nI (22528 + b)) = nI (pop (22528 + b) 15) := by decide +kernel
theorem bc_t23 : ∀ b, b < 1024 → bcF (nI (23552 + b)) = nI (pop (23552 + b) 15) := by decide +kernel
theorem bc_t24 : ∀ b, b < 1024 → bcF (nI (24576 + b)) = nI (pop (24576 + b) 15) := by decide +kernel
theorem bc_t25 : ∀ b, b < 1024 → bcF (nI (25600 + b)) = nI (pop (25600 + b) 15) := by decide +kernel
theorem bc_t26 : ∀ b, b < 1024 → bcF (nI (26624 + b)) = nI (pop (26624 + b) 15) := by decide +kernel
theorem bc_t27 : ∀ b, b < 1024 → bcF (nI (27648 + b)) = nI (pop (27648 + b) 15) := by decide +kernel
theorem bc_t28 : ∀ b, b < 1024 → bcF (nI (28672 + b)) = nI (pop (28672 + b) 15) := by decide +kernel
theorem bc_t29 : ∀ b, b < 1024 → bcF (nI (29696 + b)) = nI (pop (29696 + b) 15) := by decide +kernel
theorem bc_t30 : ∀ b, b < 1024 → bcF (nI (30720 + b)) = nI (pop (30720 + b) 15) := by decide +kernel
theorem bc_t31 : ∀ b, b < 1024 → bcF (nI (31744 + b)) = nI (pop (31744 + b) 15) := by decide +kernel
theorem bcF_eq {m : Nat} (h : m < 32768) : bcF (nI m) = nI (pop m 15) := by
  by_cases h0 : m < 1024
  · have := bc_t0 (m - 0) (by omega)
    rw [show 0 + (m - 0) = m by omega] at this
    exact this
  by_cases h1 : m < 2048
  · have := bc_t1 (m - 1024) (by omega)
    rw [show 1024 + (m - 1024) = m by omega] at this
    exact this
  by_cases h2 : m < 3072
  · have := bc_t2 (m - 2048) (by omega)
    rw [show 2048 + (m - 2048) = m by omega] at this
    exact this
  by_cases h3 : m < 4096
  · have := bc_t3 (m - 3072) (by omega)
    rw [show 3072 + (m - 3072) = m by omega] at this
    exact this
  by_cases h4 : m < 5120
  · have := bc_t4 (m - 4096) (by omega)
    rw [show 4096 + (m - 4096) = m by omega] at this
    exact this
  by_cases h5 : m < 6144
  · have := bc_t5 (m - 5120) (by omega)
    rw [show 5120 + (m - 5120) = m by omega] at this
    exact this
  by_cases h6 : m < 7168
  · have := bc_t6 (m - 6144) (by omega)
    rw [show 6144 + (m - 6144) = m by omega] at this
    exact this
  by_cases h7 : m < 8192
  · have := bc_t7 (m - 7168) (by omega)
    rw [show 7168 + (m - 7168) = m by omega] at this
    exact this
  by_cases h8 : m < 9216
  · have := bc_t8 (m - 8192) (by omega)
    rw [show 8192 + (m - 8192) = m by omega] at this
    exact this
  by_cases h9 : m < 10240
  · have := bc_t9 (m - 9216) (by omega)
    rw [show 9216 + (m - 9216) = m by omega] at this
    exact this
  by_cases h10 : m < 11264
  · have := bc_t10 (m - 10240) (by omega)
    rw [show 10240 + (m - 10240) = m by omega] at this
    exact this
  by_cases h11 : m < 12288
  · have := bc_t11 (m - 11264) (by omega)
    rw [show 11264 + (m - 11264) = m by omega] at this
    exact this
  by_cases h12 : m < 13312
  · have := bc_t12 (m - 12288) (by omega)
    rw [show 12288 + (m - 12288) = m by omega] at this
    exact this
  by_cases h13 : m < 14336
  · have := bc_t13 (m - 13312) (by omega)
    rw [show 13312 + (m - 13312) = m by omega] at this
    exact this
  by_cases h14 : m < 15360
  · have := bc_t14 (m - 14336) (by omega)
    rw [show 14336 + (m - 14336) = m by omega] at this
    exact this
  by_cases h15 : m < 16384
  · have := bc_t15 (m - 15360) (by omega)
    rw [show 15360 + (m - 15360) = m by omega] at this
    exact this
  by_cases h16 : m < 17408
  · have := bc_t16 (m - 16384) (by omega)
    rw [show 16384 + (m - 16384) = m by omega] at this
    exact this
  by_cases h17 : m < 18432
  · have := bc_t17 (m - 17408) (by omega)
    rw [show 17408 + (m - 17408) = m by omega] at this
    exact this
  by_cases h18 : m < 19456
  · have := bc_t18 (m - 18432) (by omega)
    rw [show 18432 + (m - 18432) = m by omega] at this
    exact this
  by_cases h19 : m < 20480
  · have := bc_t19 (m - 19456) (by omega)
    rw [show 19456 + (m - 19456) = m by omega] at this
    exact this
  by_cases h20 : m < 21504
  · have := bc_t20 (m - 20480) (by omega)
    rw [show 20480 + (m - 20480) = m by omega] at this
    exact this
  by_cases h21 : m < 22528
  · have := bc_t21 (m - 21504) (by omega)
    rw [show 21504 + (m - 21504) = m by omega] at this
    exact this
  by_cases h22 : m < 23552
  · have := bc_t22 (m - 22528) (by omega)
    rw [show 22528 + (m - 22528) = m by omega] at this
    exact this
  by_cases h23 : m < 24576
  · have := bc_t23 (m - 23552) (by omega)
    rw [show 23552 + (m - 23552) = m by omega] at this
    exact this
  by_cases h24 : m < 25600
  · have := bc_t24 (m - 24576) (by omega)
    rw [show 24576 + (m - 24576) = m by omega] at this
    exact this
  by_cases h25 : m < 26624
  · have := bc_t25 (m - 25600) (by omega)
    rw [show 25600 + (m - 25600) = m by omega] at this
    exact this
  by_cases h26 : m < 27648
  · have := bc_t26 (m - 26624) (by omega)
    rw [show 26624 + (m - 26624) = m by omega] at this
    exact this
  by_cases h27 : m < 28672
  · have := bc_t27 (m - 27648) (by omega)
    rw [show 27648 + (m - 27648) = m by omega] at this
    exact this
  by_cases h28 : m < 29696
  · have := bc_t28 (m - 28672) (by omega)
    rw [show 28672 + (m - 28672) = m by omega] at this
    exact this
  by_cases h29 : m < 30720
  · have := bc_t29 (m - 29696) (by omega)
    rw [show 29696 + (m - 29696) = m by omega] at this
    exact this
  by_cases h30 : m < 31744
  · have := bc_t30 (m - 30720) (by omega)
    rw [show 30720 + (m - 30720) = m by omega] at this
    exact this
  have := bc_t31 (m - 31744) (by omega)
  rw [show 31744 + (m - 31744) = m by omega] at this
  exact this
theorem c_bitCount {h : zw_H} {x : Int32} : zpI 0 mJ6_bitCount_0f7a4 [.int x] h (bcF x) := by
  refine zcI_of rfl pn_J6 (fun _ => Nat.le_of_ble_eq_true rfl) rfl (rJ6_bitCount_0f7a4_0 ?_)
  exact ⟨rfl, rfl⟩
