theorem thr_0 : q_thr "HayBarn" 62 "java/lang/IllegalStateException" = true := by decide +kernel
theorem thr_1 : q_thr "HayBarn" 73 "java/lang/IllegalArgumentException" = true := by decide +kernel
theorem thr_2 : q_thr "HayBarn" 255 "java/lang/IndexOutOfBoundsException" = true := by decide +kernel
theorem msg_0 : ("HayBarn", 60, "the tape has no room for twenty bytes more") ∈ q_msg := by decide +kernel
theorem msg_1 : ("HayBarn", 71, "the tape has not so many bytes") ∈ q_msg := by decide +kernel
theorem msg_2 : ("HayBarn", 253, "there is no such hook") ∈ q_msg := by decide +kernel
theorem msg_3 : ("HayBarn", 207, "the hook holds no bale") ∈ q_msg := by decide +kernel
theorem msg_4 : ("HayBarn", 171, "the bale has no such rope") ∈ q_msg := by decide +kernel
theorem msg_5 : ("HayBarn", 183, "there is no bale of this size or with so many ropes") ∈ q_msg := by decide +kernel
theorem msg_6 : ("HayBarn", 189, "the working half has no place for the bale") ∈ q_msg := by decide +kernel
theorem msg_7 : ("HayBarn", 194, "there is no such rope, or no bale to lead to") ∈ q_msg := by decide +kernel
theorem msg_8 : ("HayBarn", 202, "there is no such rope, or it leads to none") ∈ q_msg := by decide +kernel
theorem msg_9 : ("HayBarn", 256, "so many steps can not go by at once") ∈ q_msg := by decide +kernel
theorem msg_10 : ("HayBarn", 258, "no step is told") ∈ q_msg := by decide +kernel
