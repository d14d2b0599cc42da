theorem dL_law_559 : decode cL_law 559 = .ok (.iload_n 3, 1) := by decide +kernel
theorem dL_law_560 : decode cL_law 560 = .ok (.iconst 1, 1) := by decide +kernel
theorem dL_law_561 : decode cL_law 561 = .ok (.iadd, 1) := by decide +kernel
theorem dL_law_562 : decode cL_law 562 = .ok (.iaload, 1) := by decide +kernel
theorem dL_law_563 : decode cL_law 563 = .ok (.invokevirtual 72, 3) := by decide +kernel
theorem dL_law_566 : decode cL_law 566 = .ok (.aload_n 2, 1) := by decide +kernel
theorem dL_law_567 : decode cL_law 567 = .ok (.aload_n 0, 1) := by decide +kernel
theorem dL_law_568 : decode cL_law 568 = .ok (.iload_n 3, 1) := by decide +kernel
theorem dL_law_569 : decode cL_law 569 = .ok (.iconst 1, 1) := by decide +kernel
theorem dL_law_570 : decode cL_law 570 = .ok (.iadd, 1) := by decide +kernel
theorem dL_law_571 : decode cL_law 571 = .ok (.iaload, 1) := by decide +kernel
theorem dL_law_572 : decode cL_law 572 = .ok (.invokevirtual 75, 3) := by decide +kernel
theorem dL_law_575 : decode cL_law 575 = .ok (.if_icmp .eq 130, 3) := by decide +kernel
theorem dL_law_578 : decode cL_law 578 = .ok (.iconst 0, 1) := by decide +kernel
theorem dL_law_579 : decode cL_law 579 = .ok (.ireturn, 1) := by decide +kernel
theorem dL_law_580 : decode cL_law 580 = .ok (.aload_n 1, 1) := by decide +kernel
theorem dL_law_581 : decode cL_law 581 = .ok (.aload_n 0, 1) := by decide +kernel
theorem dL_law_582 : decode cL_law 582 = .ok (.iload_n 3, 1) := by decide +kernel
theorem dL_law_583 : decode cL_law 583 = .ok (.iconst 1, 1) := by decide +kernel
theorem dL_law_584 : decode cL_law 584 = .ok (.iadd, 1) := by decide +kernel
theorem dL_law_585 : decode cL_law 585 = .ok (.iaload, 1) := by decide +kernel
theorem dL_law_586 : decode cL_law 586 = .ok (.invokevirtual 76, 3) := by decide +kernel
theorem dL_law_589 : decode cL_law 589 = .ok (.aload_n 2, 1) := by decide +kernel
theorem dL_law_590 : decode cL_law 590 = .ok (.aload_n 0, 1) := by decide +kernel
theorem dL_law_591 : decode cL_law 591 = .ok (.iload_n 3, 1) := by decide +kernel
theorem dL_law_592 : decode cL_law 592 = .ok (.iconst 1, 1) := by decide +kernel
theorem dL_law_593 : decode cL_law 593 = .ok (.iadd, 1) := by decide +kernel
theorem dL_law_594 : decode cL_law 594 = .ok (.iaload, 1) := by decide +kernel
theorem dL_law_595 : decode cL_law 595 = .ok (.invokevirtual 79, 3) := by decide +kernel
theorem dL_law_598 : decode cL_law 598 = .ok (.if_icmp .eq 107, 3) := by decide +kernel
theorem dL_law_601 : decode cL_law 601 = .ok (.iconst 0, 1) := by decide +kernel
theorem dL_law_602 : decode cL_law 602 = .ok (.ireturn, 1) := by decide +kernel
theorem dL_law_603 : decode cL_law 603 = .ok (.aload_n 1, 1) := by decide +kernel
theorem dL_law_604 : decode cL_law 604 = .ok (.invokevirtual 80, 3) := by decide +kernel
theorem dL_law_607 : decode cL_law 607 = .ok (.aload_n 2, 1) := by decide +kernel
theorem dL_law_608 : decode cL_law 608 = .ok (.invokevirtual 83, 3) := by decide +kernel
theorem dL_law_611 : decode cL_law 611 = .ok (.if_icmp .eq 94, 3) := by decide +kernel
theorem dL_law_614 : decode cL_law 614 = .ok (.iconst 0, 1) := by decide +kernel
theorem dL_law_615 : decode cL_law 615 = .ok (.ireturn, 1) := by decide +kernel
theorem dL_law_616 : decode cL_law 616 = .ok (.aload_n 1, 1) := by decide +kernel
theorem dL_law_617 : decode cL_law 617 = .ok (.aload_n 0, 1) := by decide +kernel
theorem dL_law_618 : decode cL_law 618 = .ok (.iload_n 3, 1) := by decide +kernel
theorem dL_law_619 : decode cL_law 619 = .ok (.iconst 1, 1) := by decide +kernel
theorem dL_law_620 : decode cL_law 620 = .ok (.iadd, 1) := by decide +kernel
theorem dL_law_621 : decode cL_law 621 = .ok (.iaload, 1) := by decide +kernel
theorem dL_law_622 : decode cL_law 622 = .ok (.aload_n 0, 1) := by decide +kernel
theorem dL_law_623 : decode cL_law 623 = .ok (.iload_n 3, 1) := by decide +kernel
theorem dL_law_624 : decode cL_law 624 = .ok (.iconst 2, 1) := by decide +kernel
theorem dL_law_625 : decode cL_law 625 = .ok (.iadd, 1) := by decide +kernel
theorem dL_law_626 : decode cL_law 626 = .ok (.iaload, 1) := by decide +kernel
theorem dL_law_627 : decode cL_law 627 = .ok (.invokevirtual 84, 3) := by decide +kernel
theorem dL_law_630 : decode cL_law 630 = .ok (.aload_n 2, 1) := by decide +kernel
theorem dL_law_631 : decode cL_law 631 = .ok (.aload_n 0, 1) := by decide +kernel
theorem dL_law_632 : decode cL_law 632 = .ok (.iload_n 3, 1) := by decide +kernel
theorem dL_law_633 : decode cL_law 633 = .ok (.iconst 1, 1) := by decide +kernel
theorem dL_law_634 : decode cL_law 634 = .ok (.iadd, 1) := by decide +kernel
theorem dL_law_635 : decode cL_law 635 = .ok (.iaload, 1) := by decide +kernel
theorem dL_law_636 : decode cL_law 636 = .ok (.aload_n 0, 1) := by decide +kernel
theorem dL_law_637 : decode cL_law 637 = .ok (.iload_n 3, 1) := by decide +kernel
theorem dL_law_638 : decode cL_law 638 = .ok (.iconst 2, 1) := by decide +kernel
theorem dL_law_639 : decode cL_law 639 = .ok (.iadd, 1) := by decide +kernel
theorem dL_law_640 : decode cL_law 640 = .ok (.iaload, 1) := by decide +kernel
theorem dL_law_641 : decode cL_law 641 = .ok (.invokevirtual 87, 3) := by decide +kernel
theorem dL_law_644 : decode cL_law 644 = .ok (.if_icmp .eq 61, 3) := by decide +kernel
theorem dL_law_647 : decode cL_law 647 = .ok (.iconst 0, 1) := by decide +kernel
theorem dL_law_648 : decode cL_law 648 = .ok (.ireturn, 1) := by decide +kernel
theorem dL_law_649 : decode cL_law 649 = .ok (.aload_n 1, 1) := by decide +kernel
theorem dL_law_650 : decode cL_law 650 = .ok (.aload_n 0, 1) := by decide +kernel
theorem dL_law_651 : decode cL_law 651 = .ok (.iload_n 3, 1) := by decide +kernel
theorem dL_law_652 : decode cL_law 652 = .ok (.iconst 1, 1) := by decide +kernel
theorem dL_law_653 : decode cL_law 653 = .ok (.iadd, 1) := by decide +kernel
theorem dL_law_654 : decode cL_law 654 = .ok (.iaload, 1) := by decide +kernel
theorem dL_law_655 : decode cL_law 655 = .ok (.invokevirtual 88, 3) := by decide +kernel
theorem dL_law_658 : decode cL_law 658 = .ok (.aload_n 2, 1) := by decide +kernel
theorem dL_law_659 : decode cL_law 659 = .ok (.aload_n 0, 1) := by decide +kernel
theorem dL_law_660 : decode cL_law 660 = .ok (.iload_n 3, 1) := by decide +kernel
theorem dL_law_661 : decode cL_law 661 = .ok (.iconst 1, 1) := by decide +kernel
theorem dL_law_662 : decode cL_law 662 = .ok (.iadd, 1) := by decide +kernel
theorem dL_law_663 : decode cL_law 663 = .ok (.iaload, 1) := by decide +kernel
theorem dL_law_664 : decode cL_law 664 = .ok (.invokevirtual 91, 3) := by decide +kernel
theorem dL_law_667 : decode cL_law 667 = .ok (.if_icmp .eq 38, 3) := by decide +kernel
theorem dL_law_670 : decode cL_law 670 = .ok (.iconst 0, 1) := by decide +kernel
theorem dL_law_671 : decode cL_law 671 = .ok (.ireturn, 1) := by decide +kernel
theorem dL_law_672 : decode cL_law 672 = .ok (.aload_n 1, 1) := by decide +kernel
theorem dL_law_673 : decode cL_law 673 = .ok (.aload_n 0, 1) := by decide +kernel
theorem dL_law_674 : decode cL_law 674 = .ok (.iload_n 3, 1) := by decide +kernel
theorem dL_law_675 : decode cL_law 675 = .ok (.iconst 1, 1) := by decide +kernel
theorem dL_law_676 : decode cL_law 676 = .ok (.iadd, 1) := by decide +kernel
theorem dL_law_677 : decode cL_law 677 = .ok (.iaload, 1) := by decide +kernel
theorem dL_law_678 : decode cL_law 678 = .ok (.aload_n 0, 1) := by decide +kernel
theorem dL_law_679 : decode cL_law 679 = .ok (.iload_n 3, 1) := by decide +kernel
theorem dL_law_680 : decode cL_law 680 = .ok (.iconst 2, 1) := by decide +kernel
theorem dL_law_681 : decode cL_law 681 = .ok (.iadd, 1) := by decide +kernel
theorem dL_law_682 : decode cL_law 682 = .ok (.iaload, 1) := by decide +kernel
theorem dL_law_683 : decode cL_law 683 = .ok (.invokevirtual 92, 3) := by decide +kernel
theorem dL_law_686 : decode cL_law 686 = .ok (.aload_n 2, 1) := by decide +kernel
theorem dL_law_687 : decode cL_law 687 = .ok (.aload_n 0, 1) := by decide +kernel
theorem dL_law_688 : decode cL_law 688 = .ok (.iload_n 3, 1) := by decide +kernel
theorem dL_law_689 : decode cL_law 689 = .ok (.iconst 1, 1) := by decide +kernel
theorem dL_law_690 : decode cL_law 690 = .ok (.iadd, 1) := by decide +kernel
theorem dL_law_691 : decode cL_law 691 = .ok (.iaload, 1) := by decide +kernel
theorem dL_law_692 : decode cL_law 692 = .ok (.aload_n 0, 1) := by decide +kernel
theorem dL_law_693 : decode cL_law 693 = .ok (.iload_n 3, 1) := by decide +kernel
theorem dL_law_694 : decode cL_law 694 = .ok (.iconst 2, 1) := by decide +kernel
theorem dL_law_695 : decode cL_law 695 = .ok (.iadd, 1) := by decide +kernel
theorem dL_law_696 : decode cL_law 696 = .ok (.iaload, 1) := by decide +kernel
theorem dL_law_697 : decode cL_law 697 = .ok (.invokevirtual 95, 3) := by decide +kernel
theorem dL_law_700 : decode cL_law 700 = .ok (.if_icmp .eq 5, 3) := by decide +kernel
theorem dL_law_703 : decode cL_law 703 = .ok (.iconst 0, 1) := by decide +kernel
theorem dL_law_704 : decode cL_law 704 = .ok (.ireturn, 1) := by decide +kernel
theorem dL_law_705 : decode cL_law 705 = .ok (.iinc 3 8, 3) := by decide +kernel
theorem dL_law_708 : decode cL_law 708 = .ok (.goto (-690), 3) := by decide +kernel
theorem dL_law_711 : decode cL_law 711 = .ok (.iconst 1, 1) := by decide +kernel
theorem dL_law_712 : decode cL_law 712 = .ok (.ireturn, 1) := by decide +kernel
